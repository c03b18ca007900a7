theorem vw_X12_isPerson : VW yX12_isPerson cX12_isPerson 2 (some .boolean) 1 := ⟨⟨(in_wt 88 (by decide +kernel) (by decide +kernel)), (in_wt 1492 (by decide +kernel) (by decide +kernel)), by decide +kernel⟩, (in_wt 1491 (by decide +kernel) (by decide +kernel)), (in_wt 46 (by decide +kernel) (by decide +kernel))⟩
theorem vw_X12_refuseFar : VW yX12_refuseFar cX12_refuseFar 2 (some .int) 1 := ⟨⟨(in_wt 88 (by decide +kernel) (by decide +kernel)), (in_wt 1496 (by decide +kernel) (by decide +kernel)), by decide +kernel⟩, (in_wt 1495 (by decide +kernel) (by decide +kernel)), (in_wt 47 (by decide +kernel) (by decide +kernel))⟩
theorem ml_X12_194 : Cond.methodLink RX12 194 yX12_isPerson ∈ wt := in_wt 1489 (by decide +kernel) (by decide +kernel)
theorem ml_X12_197 : Cond.methodLink RX12 197 yX12_refuseFar ∈ wt := in_wt 1493 (by decide +kernel) (by decide +kernel)
/-- PostsEndModel.public int protect(int, int) -/
def m_protect (σ : St) (a1 : Int32) (a2 : Int32) : Option (Int32 × St) := (Option.bind (m_isPerson σ a1) fun r1 => (if r1 = 0 then (Option.bind (m_refuseFar σ (-1 : Int32)) fun r10 => some (r10.1, r10.2)) else (if a2 < (-1 : Int32) then (Option.bind (m_refuseFar σ (-4 : Int32)) fun r8 => some (r8.1, r8.2)) else (if (9000 : Int32) < a2 then (Option.bind (m_refuseFar σ (-6 : Int32)) fun r6 => some (r6.1, r6.2)) else (Option.bind (ix 40 a1) fun i3 => (Option.bind (ix 40 a1) fun i4 => (lt1 (sx σ 0 15 i4 a2) fun σ5 => some (σ.1 0 15 i3, σ5))))))))
set_option maxRecDepth 20000 in
set_option maxHeartbeats 4000000 in
theorem w_m_protect (Θ : TT) (σ : St) (a1 : Int32) (a2 : Int32) (C : CX Θ cX12_protect RX12 (some .int) ({ frames := 2, cells := 0, slots := 0, locals := 43 } : Room) 4) : WA LM Θ (fun r : Int32 × St => Qm LM Θ (some (.int r.1)) r.2 (True)) 0 [some (.ref (cF Θ 0)), some (.int a1), some (.int a2), none] [] σ (m_protect σ a1 a2) := by
  unfold m_protect
  refine r_aload_n C dX12_protect_0 rfl ?_
  refine r_iload_n C dX12_protect_1 rfl ?_
  refine r_callV C (st := []) (As := [.int a1]) (d := 0) (j := 0) dX12_protect_2 ml_X12_194 vw_X12_isPerson ⟨_, _, _, _, rfl, rfl⟩ (dm0 (by decide)) (fun r1 e => c_m_isPerson Θ.1.2.1 (cW Θ) (cAd Θ) (cN Θ) σ a1 r1 e) rfl rfl (Nat.le_of_ble_eq_true rfl) ⟨rfl, rfl, by decide, by decide⟩ (fun r1 h2 => ?_)
  refine r_if_ne C 14 dX12_protect_5 (by decide) ?_ ?_
  · refine r_iload_n C dX12_protect_14 rfl ?_
    refine r_iconst C (-1 : Int32) dX12_protect_15 (by decide) ?_
    refine r_icmp_ge C 26 dX12_protect_16 (by decide) ?_ ?_
    · refine r_iload_n C dX12_protect_26 rfl ?_
      refine r_sipush C (9000 : Int32) dX12_protect_27 (by decide) ?_
      refine r_icmp_le C 40 dX12_protect_30 (by decide) ?_ ?_
      · refine r_aload_n C dX12_protect_40 rfl ?_
        refine r_getF0 C dX12_protect_41 fg_X12_52 (by decide) ?_
        refine r_iload_n C dX12_protect_44 rfl ?_
        refine r_iald (α := Unit) C dX12_protect_45 ag_LM_15 (fun i3 => ?_)
        refine r_istore_n C [some (.ref (cF Θ 0)), some (.int a1), some (.int a2), some (.int (σ.1 0 15 i3))] dX12_protect_46 rfl (by decide) rfl ?_
        refine r_aload_n C dX12_protect_47 rfl ?_
        refine r_getF0 C dX12_protect_48 fg_X12_52 (by decide) ?_
        refine r_iload_n C dX12_protect_51 rfl ?_
        refine r_iload_n C dX12_protect_52 rfl ?_
        refine r_iast C dX12_protect_53 ag_LM_15 (fun i4 => ?_)
        refine WA.gen (fun σ5 => ?_)
        refine r_iload_n C dX12_protect_54 rfl ?_
        exact r_iret C dX12_protect_55 rfl rfl trivial
      · refine r_aload_n C dX12_protect_33 rfl ?_
        refine r_bipush C (-6 : Int32) dX12_protect_34 (by decide) ?_
        refine r_callV C (st := []) (As := [.int (-6 : Int32)]) (d := 0) (j := 0) dX12_protect_36 ml_X12_197 vw_X12_refuseFar ⟨_, _, _, _, rfl, rfl⟩ (dm0 (by decide)) (fun r6 e => c_m_refuseFar Θ.1.2.1 (cW Θ) (cAd Θ) (cN Θ) σ (-6 : Int32) r6 e) rfl rfl (Nat.le_of_ble_eq_true rfl) ⟨rfl, rfl, by decide, by decide⟩ (fun r6 h7 => ?_)
        exact r_iret C dX12_protect_39 rfl rfl trivial
    · refine r_aload_n C dX12_protect_19 rfl ?_
      refine r_bipush C (-4 : Int32) dX12_protect_20 (by decide) ?_
      refine r_callV C (st := []) (As := [.int (-4 : Int32)]) (d := 0) (j := 0) dX12_protect_22 ml_X12_197 vw_X12_refuseFar ⟨_, _, _, _, rfl, rfl⟩ (dm0 (by decide)) (fun r8 e => c_m_refuseFar Θ.1.2.1 (cW Θ) (cAd Θ) (cN Θ) σ (-4 : Int32) r8 e) rfl rfl (Nat.le_of_ble_eq_true rfl) ⟨rfl, rfl, by decide, by decide⟩ (fun r8 h9 => ?_)
      exact r_iret C dX12_protect_25 rfl rfl trivial
  · refine r_aload_n C dX12_protect_8 rfl ?_
    refine r_iconst C (-1 : Int32) dX12_protect_9 (by decide) ?_
    refine r_callV C (st := []) (As := [.int (-1 : Int32)]) (d := 0) (j := 0) dX12_protect_10 ml_X12_197 vw_X12_refuseFar ⟨_, _, _, _, rfl, rfl⟩ (dm0 (by decide)) (fun r10 e => c_m_refuseFar Θ.1.2.1 (cW Θ) (cAd Θ) (cN Θ) σ (-1 : Int32) r10 e) rfl rfl (Nat.le_of_ble_eq_true rfl) ⟨rfl, rfl, by decide, by decide⟩ (fun r10 h11 => ?_)
    exact r_iret C dX12_protect_13 rfl rfl trivial
theorem c_m_protect (l : Launch) (ω : Wd) (ad : Nat → Nat → Nat) (N : Nat → Nat) (σ : St) (a1 : Int32) (a2 : Int32) : ∀ r : Int32 × St, m_protect σ a1 a2 = some r → Ct l yX12_protect cX12_protect 4 (some .int) ({ frames := 2, cells := 0, slots := 0, locals := 43 } : Room) LM ω ad N [.ref (ω.2.1 0), .int a1, .int a2] σ (some (.int r.1)) r.2 (True) :=
  ct_of (o := fun r : Int32 × St => (some (.int r.1))) (s' := fun r => r.2) (P := fun r => True) [some (.ref (ω.2.1 0)), some (.int a1), some (.int a2), none] (by decide) rfl (Nat.le_of_ble_eq_true rfl) (fun Γ C _ _ => w_m_protect (Γ, ω, 4, ad, N, 0, 0) σ a1 a2 C)
theorem vw_X12_isHere : VW yX12_isHere cX12_isHere 2 (some .boolean) 1 := ⟨⟨(in_wt 88 (by decide +kernel) (by decide +kernel)), (in_wt 1505 (by decide +kernel) (by decide +kernel)), by decide +kernel⟩, (in_wt 1504 (by decide +kernel) (by decide +kernel)), (in_wt 48 (by decide +kernel) (by decide +kernel))⟩
theorem ml_X12_200 : Cond.methodLink RX12 200 yX12_isHere ∈ wt := in_wt 1502 (by decide +kernel) (by decide +kernel)
/-- PostsEndModel.public int move(int, int) -/
def m_move (σ : St) (a1 : Int32) (a2 : Int32) : Option (Int32 × St) := (Option.bind (m_isPerson σ a1) fun r1 => (if r1 = 0 then (Option.bind (m_refuseFar σ (-1 : Int32)) fun r3 => some (r3.1, r3.2)) else (if a2 = (-1 : Int32) then (Option.bind (m_isHere σ a1) fun r5 => (if r5 = 0 then (Option.bind (m_refuseFar σ (-3 : Int32)) fun r7 => some (r7.1, r7.2)) else (if a2 < 0 then (Option.bind (ix 40 a1) fun i9 => (Option.bind (m_drop σ a1) fun r10 => (Option.bind (ix 40 a1) fun i12 => (lt1 (sx r10 0 12 i12 a2) fun σ13 => some (σ.1 0 12 i9, σ13))))) else (Option.bind (ix 40 a1) fun i14 => (if σ.1 0 12 i14 = a2 then (Option.bind (ix 40 a1) fun i15 => (Option.bind (m_drop σ a1) fun r16 => (Option.bind (ix 40 a1) fun i18 => (lt1 (sx r16 0 12 i18 a2) fun σ19 => some (σ.1 0 12 i15, σ19))))) else (Option.bind (m_isVacant σ a2) fun r20 => (if r20 = 0 then (Option.bind (m_refuseFar σ (-3 : Int32)) fun r27 => some (r27.1, r27.2)) else (Option.bind (ix 40 a1) fun i22 => (Option.bind (m_drop σ a1) fun r23 => (Option.bind (ix 40 a1) fun i25 => (lt1 (sx r23 0 12 i25 a2) fun σ26 => some (σ.1 0 12 i22, σ26)))))))))))) else (Option.bind (m_isPost σ a2) fun r29 => (if r29 = 0 then (Option.bind (m_refuseFar σ (-1 : Int32)) fun r55 => some (r55.1, r55.2)) else (Option.bind (m_isHere σ a1) fun r31 => (if r31 = 0 then (Option.bind (m_refuseFar σ (-3 : Int32)) fun r33 => some (r33.1, r33.2)) else (if a2 < 0 then (Option.bind (ix 40 a1) fun i35 => (Option.bind (m_drop σ a1) fun r36 => (Option.bind (ix 40 a1) fun i38 => (lt1 (sx r36 0 12 i38 a2) fun σ39 => some (σ.1 0 12 i35, σ39))))) else (Option.bind (ix 40 a1) fun i40 => (if σ.1 0 12 i40 = a2 then (Option.bind (ix 40 a1) fun i41 => (Option.bind (m_drop σ a1) fun r42 => (Option.bind (ix 40 a1) fun i44 => (lt1 (sx r42 0 12 i44 a2) fun σ45 => some (σ.1 0 12 i41, σ45))))) else (Option.bind (m_isVacant σ a2) fun r46 => (if r46 = 0 then (Option.bind (m_refuseFar σ (-3 : Int32)) fun r53 => some (r53.1, r53.2)) else (Option.bind (ix 40 a1) fun i48 => (Option.bind (m_drop σ a1) fun r49 => (Option.bind (ix 40 a1) fun i51 => (lt1 (sx r49 0 12 i51 a2) fun σ52 => some (σ.1 0 12 i48, σ52)))))))))))))))))
set_option maxRecDepth 20000 in
set_option maxHeartbeats 4000000 in
theorem w_m_move (Θ : TT) (σ : St) (a1 : Int32) (a2 : Int32) (C : CX Θ cX12_move RX12 (some .int) ({ frames := 2, cells := 0, slots := 0, locals := 43 } : Room) 4) : WA LM Θ (fun r : Int32 × St => Qm LM Θ (some (.int r.1)) r.2 (True)) 0 [some (.ref (cF Θ 0)), some (.int a1), some (.int a2), none] [] σ (m_move σ a1 a2) := by
  unfold m_move
  refine r_aload_n C dX12_move_0 rfl ?_
  refine r_iload_n C dX12_move_1 rfl ?_
  refine r_callV C (st := []) (As := [.int a1]) (d := 0) (j := 0) dX12_move_2 ml_X12_194 vw_X12_isPerson ⟨_, _, _, _, rfl, rfl⟩ (dm0 (by decide)) (fun r1 e => c_m_isPerson Θ.1.2.1 (cW Θ) (cAd Θ) (cN Θ) σ a1 r1 e) rfl rfl (Nat.le_of_ble_eq_true rfl) ⟨rfl, rfl, by decide, by decide⟩ (fun r1 h2 => ?_)
  refine r_if_eq C 21 dX12_move_5 (by decide) ?_ ?_
  · refine r_aload_n C dX12_move_21 rfl ?_
    refine r_iconst C (-1 : Int32) dX12_move_22 (by decide) ?_
    refine r_callV C (st := []) (As := [.int (-1 : Int32)]) (d := 0) (j := 0) dX12_move_23 ml_X12_197 vw_X12_refuseFar ⟨_, _, _, _, rfl, rfl⟩ (dm0 (by decide)) (fun r3 e => c_m_refuseFar Θ.1.2.1 (cW Θ) (cAd Θ) (cN Θ) σ (-1 : Int32) r3 e) rfl rfl (Nat.le_of_ble_eq_true rfl) ⟨rfl, rfl, by decide, by decide⟩ (fun r3 h4 => ?_)
    exact r_iret C dX12_move_26 rfl rfl trivial
  · refine r_iload_n C dX12_move_8 rfl ?_
    refine r_iconst C (-1 : Int32) dX12_move_9 (by decide) ?_
    refine r_icmp_eq C 27 dX12_move_10 (by decide) ?_ ?_
    · refine r_aload_n C dX12_move_27 rfl ?_
      refine r_iload_n C dX12_move_28 rfl ?_
      refine r_callV C (st := []) (As := [.int a1]) (d := 0) (j := 0) dX12_move_29 ml_X12_200 vw_X12_isHere ⟨_, _, _, _, rfl, rfl⟩ (dm0 (by decide)) (fun r5 e => c_m_isHere Θ.1.2.1 (cW Θ) (cAd Θ) (cN Θ) σ a1 r5 e) rfl rfl (Nat.le_of_ble_eq_true rfl) ⟨rfl, rfl, by decide, by decide⟩ (fun r5 h6 => ?_)
      refine r_if_eq C 57 dX12_move_32 (by decide) ?_ ?_
      · refine r_aload_n C dX12_move_57 rfl ?_
        refine r_bipush C (-3 : Int32) dX12_move_58 (by decide) ?_
        refine r_callV C (st := []) (As := [.int (-3 : Int32)]) (d := 0) (j := 0) dX12_move_60 ml_X12_197 vw_X12_refuseFar ⟨_, _, _, _, rfl, rfl⟩ (dm0 (by decide)) (fun r7 e => c_m_refuseFar Θ.1.2.1 (cW Θ) (cAd Θ) (cN Θ) σ (-3 : Int32) r7 e) rfl rfl (Nat.le_of_ble_eq_true rfl) ⟨rfl, rfl, by decide, by decide⟩ (fun r7 h8 => ?_)
        exact r_iret C dX12_move_63 rfl rfl trivial
      · refine r_iload_n C dX12_move_35 rfl ?_
        refine r_if_lt C 64 dX12_move_36 (by decide) ?_ ?_
        · refine r_aload_n C dX12_move_64 rfl ?_
          refine r_getF0 C dX12_move_65 fg_X12_43 (by decide) ?_
          refine r_iload_n C dX12_move_68 rfl ?_
          refine r_iald (α := Unit) C dX12_move_69 ag_LM_12 (fun i9 => ?_)
          refine r_istore_n C [some (.ref (cF Θ 0)), some (.int a1), some (.int a2), some (.int (σ.1 0 12 i9))] dX12_move_70 rfl (by decide) rfl ?_
          refine r_aload_n C dX12_move_71 rfl ?_
          refine r_iload_n C dX12_move_72 rfl ?_
          refine r_callV C (st := []) (As := [.int a1]) (d := 0) (j := 0) dX12_move_73 ml_X12_184 vw_X12_drop ⟨_, _, _, _, rfl, rfl⟩ (dm0 (by decide)) (fun r10 e => c_m_drop Θ.1.2.1 (cW Θ) (cAd Θ) (cN Θ) σ a1 r10 e) rfl rfl (Nat.le_of_ble_eq_true rfl) ⟨rfl, rfl, by decide, by decide⟩ (fun r10 h11 => ?_)
          refine r_aload_n C dX12_move_76 rfl ?_
          refine r_getF0 C dX12_move_77 fg_X12_43 (by decide) ?_
          refine r_iload_n C dX12_move_80 rfl ?_
          refine r_iload_n C dX12_move_81 rfl ?_
          refine r_iast C dX12_move_82 ag_LM_12 (fun i12 => ?_)
          refine WA.gen (fun σ13 => ?_)
          refine r_iload_n C dX12_move_83 rfl ?_
          exact r_iret C dX12_move_84 rfl rfl trivial
        · refine r_aload_n C dX12_move_39 rfl ?_
          refine r_getF0 C dX12_move_40 fg_X12_43 (by decide) ?_
          refine r_iload_n C dX12_move_43 rfl ?_
          refine r_iald (α := Unit) C dX12_move_44 ag_LM_12 (fun i14 => ?_)
          refine r_iload_n C dX12_move_45 rfl ?_
          refine r_icmp_eq C 64 dX12_move_46 (by decide) ?_ ?_
          · refine r_aload_n C dX12_move_64 rfl ?_
            refine r_getF0 C dX12_move_65 fg_X12_43 (by decide) ?_
            refine r_iload_n C dX12_move_68 rfl ?_
            refine r_iald (α := Unit) C dX12_move_69 ag_LM_12 (fun i15 => ?_)
            refine r_istore_n C [some (.ref (cF Θ 0)), some (.int a1), some (.int a2), some (.int (σ.1 0 12 i15))] dX12_move_70 rfl (by decide) rfl ?_
            refine r_aload_n C dX12_move_71 rfl ?_
            refine r_iload_n C dX12_move_72 rfl ?_
            refine r_callV C (st := []) (As := [.int a1]) (d := 0) (j := 0) dX12_move_73 ml_X12_184 vw_X12_drop ⟨_, _, _, _, rfl, rfl⟩ (dm0 (by decide)) (fun r16 e => c_m_drop Θ.1.2.1 (cW Θ) (cAd Θ) (cN Θ) σ a1 r16 e) rfl rfl (Nat.le_of_ble_eq_true rfl) ⟨rfl, rfl, by decide, by decide⟩ (fun r16 h17 => ?_)
            refine r_aload_n C dX12_move_76 rfl ?_
            refine r_getF0 C dX12_move_77 fg_X12_43 (by decide) ?_
            refine r_iload_n C dX12_move_80 rfl ?_
            refine r_iload_n C dX12_move_81 rfl ?_
            refine r_iast C dX12_move_82 ag_LM_12 (fun i18 => ?_)
            refine WA.gen (fun σ19 => ?_)
            refine r_iload_n C dX12_move_83 rfl ?_
            exact r_iret C dX12_move_84 rfl rfl trivial
          · refine r_aload_n C dX12_move_49 rfl ?_
            refine r_iload_n C dX12_move_50 rfl ?_
            refine r_callV C (st := []) (As := [.int a2]) (d := 0) (j := 0) dX12_move_51 ml_X12_191 vw_X12_isVacant ⟨_, _, _, _, rfl, rfl⟩ (dm0 (by decide)) (fun r20 e => c_m_isVacant Θ.1.2.1 (cW Θ) (cAd Θ) (cN Θ) σ a2 r20 e) rfl rfl (Nat.le_of_ble_eq_true rfl) ⟨rfl, rfl, by decide, by decide⟩ (fun r20 h21 => ?_)
            refine r_if_ne C 64 dX12_move_54 (by decide) ?_ ?_
            · refine r_aload_n C dX12_move_64 rfl ?_
              refine r_getF0 C dX12_move_65 fg_X12_43 (by decide) ?_
              refine r_iload_n C dX12_move_68 rfl ?_
              refine r_iald (α := Unit) C dX12_move_69 ag_LM_12 (fun i22 => ?_)
              refine r_istore_n C [some (.ref (cF Θ 0)), some (.int a1), some (.int a2), some (.int (σ.1 0 12 i22))] dX12_move_70 rfl (by decide) rfl ?_
              refine r_aload_n C dX12_move_71 rfl ?_
              refine r_iload_n C dX12_move_72 rfl ?_
              refine r_callV C (st := []) (As := [.int a1]) (d := 0) (j := 0) dX12_move_73 ml_X12_184 vw_X12_drop ⟨_, _, _, _, rfl, rfl⟩ (dm0 (by decide)) (fun r23 e => c_m_drop Θ.1.2.1 (cW Θ) (cAd Θ) (cN Θ) σ a1 r23 e) rfl rfl (Nat.le_of_ble_eq_true rfl) ⟨rfl, rfl, by decide, by decide⟩ (fun r23 h24 => ?_)
              refine r_aload_n C dX12_move_76 rfl ?_
              refine r_getF0 C dX12_move_77 fg_X12_43 (by decide) ?_
              refine r_iload_n C dX12_move_80 rfl ?_
              refine r_iload_n C dX12_move_81 rfl ?_
              refine r_iast C dX12_move_82 ag_LM_12 (fun i25 => ?_)
              refine WA.gen (fun σ26 => ?_)
              refine r_iload_n C dX12_move_83 rfl ?_
              exact r_iret C dX12_move_84 rfl rfl trivial
            · refine r_aload_n C dX12_move_57 rfl ?_
              refine r_bipush C (-3 : Int32) dX12_move_58 (by decide) ?_
              refine r_callV C (st := []) (As := [.int (-3 : Int32)]) (d := 0) (j := 0) dX12_move_60 ml_X12_197 vw_X12_refuseFar ⟨_, _, _, _, rfl, rfl⟩ (dm0 (by decide)) (fun r27 e => c_m_refuseFar Θ.1.2.1 (cW Θ) (cAd Θ) (cN Θ) σ (-3 : Int32) r27 e) rfl rfl (Nat.le_of_ble_eq_true rfl) ⟨rfl, rfl, by decide, by decide⟩ (fun r27 h28 => ?_)
              exact r_iret C dX12_move_63 rfl rfl trivial
    · refine r_aload_n C dX12_move_13 rfl ?_
      refine r_iload_n C dX12_move_14 rfl ?_
      refine r_callV C (st := []) (As := [.int a2]) (d := 0) (j := 0) dX12_move_15 ml_X12_181 vw_X12_isPost ⟨_, _, _, _, rfl, rfl⟩ (dm0 (by decide)) (fun r29 e => c_m_isPost Θ.1.2.1 (cW Θ) (cAd Θ) (cN Θ) σ a2 r29 e) rfl rfl (Nat.le_of_ble_eq_true rfl) ⟨rfl, rfl, by decide, by decide⟩ (fun r29 h30 => ?_)
      refine r_if_ne C 27 dX12_move_18 (by decide) ?_ ?_
      · refine r_aload_n C dX12_move_27 rfl ?_
        refine r_iload_n C dX12_move_28 rfl ?_
        refine r_callV C (st := []) (As := [.int a1]) (d := 0) (j := 0) dX12_move_29 ml_X12_200 vw_X12_isHere ⟨_, _, _, _, rfl, rfl⟩ (dm0 (by decide)) (fun r31 e => c_m_isHere Θ.1.2.1 (cW Θ) (cAd Θ) (cN Θ) σ a1 r31 e) rfl rfl (Nat.le_of_ble_eq_true rfl) ⟨rfl, rfl, by decide, by decide⟩ (fun r31 h32 => ?_)
        refine r_if_eq C 57 dX12_move_32 (by decide) ?_ ?_
        · refine r_aload_n C dX12_move_57 rfl ?_
          refine r_bipush C (-3 : Int32) dX12_move_58 (by decide) ?_
          refine r_callV C (st := []) (As := [.int (-3 : Int32)]) (d := 0) (j := 0) dX12_move_60 ml_X12_197 vw_X12_refuseFar ⟨_, _, _, _, rfl, rfl⟩ (dm0 (by decide)) (fun r33 e => c_m_refuseFar Θ.1.2.1 (cW Θ) (cAd Θ) (cN Θ) σ (-3 : Int32) r33 e) rfl rfl (Nat.le_of_ble_eq_true rfl) ⟨rfl, rfl, by decide, by decide⟩ (fun r33 h34 => ?_)
          exact r_iret C dX12_move_63 rfl rfl trivial
        · refine r_iload_n C dX12_move_35 rfl ?_
          refine r_if_lt C 64 dX12_move_36 (by decide) ?_ ?_
          · refine r_aload_n C dX12_move_64 rfl ?_
            refine r_getF0 C dX12_move_65 fg_X12_43 (by decide) ?_
            refine r_iload_n C dX12_move_68 rfl ?_
            refine r_iald (α := Unit) C dX12_move_69 ag_LM_12 (fun i35 => ?_)
            refine r_istore_n C [some (.ref (cF Θ 0)), some (.int a1), some (.int a2), some (.int (σ.1 0 12 i35))] dX12_move_70 rfl (by decide) rfl ?_
            refine r_aload_n C dX12_move_71 rfl ?_
            refine r_iload_n C dX12_move_72 rfl ?_
            refine r_callV C (st := []) (As := [.int a1]) (d := 0) (j := 0) dX12_move_73 ml_X12_184 vw_X12_drop ⟨_, _, _, _, rfl, rfl⟩ (dm0 (by decide)) (fun r36 e => c_m_drop Θ.1.2.1 (cW Θ) (cAd Θ) (cN Θ) σ a1 r36 e) rfl rfl (Nat.le_of_ble_eq_true rfl) ⟨rfl, rfl, by decide, by decide⟩ (fun r36 h37 => ?_)
            refine r_aload_n C dX12_move_76 rfl ?_
            refine r_getF0 C dX12_move_77 fg_X12_43 (by decide) ?_
            refine r_iload_n C dX12_move_80 rfl ?_
            refine r_iload_n C dX12_move_81 rfl ?_
            refine r_iast C dX12_move_82 ag_LM_12 (fun i38 => ?_)
            refine WA.gen (fun σ39 => ?_)
            refine r_iload_n C dX12_move_83 rfl ?_
            exact r_iret C dX12_move_84 rfl rfl trivial
          · refine r_aload_n C dX12_move_39 rfl ?_
            refine r_getF0 C dX12_move_40 fg_X12_43 (by decide) ?_
            refine r_iload_n C dX12_move_43 rfl ?_
            refine r_iald (α := Unit) C dX12_move_44 ag_LM_12 (fun i40 => ?_)
            refine r_iload_n C dX12_move_45 rfl ?_
            refine r_icmp_eq C 64 dX12_move_46 (by decide) ?_ ?_
            · refine r_aload_n C dX12_move_64 rfl ?_
              refine r_getF0 C dX12_move_65 fg_X12_43 (by decide) ?_
              refine r_iload_n C dX12_move_68 rfl ?_
              refine r_iald (α := Unit) C dX12_move_69 ag_LM_12 (fun i41 => ?_)
              refine r_istore_n C [some (.ref (cF Θ 0)), some (.int a1), some (.int a2), some (.int (σ.1 0 12 i41))] dX12_move_70 rfl (by decide) rfl ?_
              refine r_aload_n C dX12_move_71 rfl ?_
              refine r_iload_n C dX12_move_72 rfl ?_
              refine r_callV C (st := []) (As := [.int a1]) (d := 0) (j := 0) dX12_move_73 ml_X12_184 vw_X12_drop ⟨_, _, _, _, rfl, rfl⟩ (dm0 (by decide)) (fun r42 e => c_m_drop Θ.1.2.1 (cW Θ) (cAd Θ) (cN Θ) σ a1 r42 e) rfl rfl (Nat.le_of_ble_eq_true rfl) ⟨rfl, rfl, by decide, by decide⟩ (fun r42 h43 => ?_)
              refine r_aload_n C dX12_move_76 rfl ?_
              refine r_getF0 C dX12_move_77 fg_X12_43 (by decide) ?_
              refine r_iload_n C dX12_move_80 rfl ?_
              refine r_iload_n C dX12_move_81 rfl ?_
              refine r_iast C dX12_move_82 ag_LM_12 (fun i44 => ?_)
              refine WA.gen (fun σ45 => ?_)
              refine r_iload_n C dX12_move_83 rfl ?_
              exact r_iret C dX12_move_84 rfl rfl trivial
            · refine r_aload_n C dX12_move_49 rfl ?_
              refine r_iload_n C dX12_move_50 rfl ?_
              refine r_callV C (st := []) (As := [.int a2]) (d := 0) (j := 0) dX12_move_51 ml_X12_191 vw_X12_isVacant ⟨_, _, _, _, rfl, rfl⟩ (dm0 (by decide)) (fun r46 e => c_m_isVacant Θ.1.2.1 (cW Θ) (cAd Θ) (cN Θ) σ a2 r46 e) rfl rfl (Nat.le_of_ble_eq_true rfl) ⟨rfl, rfl, by decide, by decide⟩ (fun r46 h47 => ?_)
              refine r_if_ne C 64 dX12_move_54 (by decide) ?_ ?_
              · refine r_aload_n C dX12_move_64 rfl ?_
                refine r_getF0 C dX12_move_65 fg_X12_43 (by decide) ?_
                refine r_iload_n C dX12_move_68 rfl ?_
                refine r_iald (α := Unit) C dX12_move_69 ag_LM_12 (fun i48 => ?_)
                refine r_istore_n C [some (.ref (cF Θ 0)), some (.int a1), some (.int a2), some (.int (σ.1 0 12 i48))] dX12_move_70 rfl (by decide) rfl ?_
                refine r_aload_n C dX12_move_71 rfl ?_
                refine r_iload_n C dX12_move_72 rfl ?_
                refine r_callV C (st := []) (As := [.int a1]) (d := 0) (j := 0) dX12_move_73 ml_X12_184 vw_X12_drop ⟨_, _, _, _, rfl, rfl⟩ (dm0 (by decide)) (fun r49 e => c_m_drop Θ.1.2.1 (cW Θ) (cAd Θ) (cN Θ) σ a1 r49 e) rfl rfl (Nat.le_of_ble_eq_true rfl) ⟨rfl, rfl, by decide, by decide⟩ (fun r49 h50 => ?_)
                refine r_aload_n C dX12_move_76 rfl ?_
                refine r_getF0 C dX12_move_77 fg_X12_43 (by decide) ?_
                refine r_iload_n C dX12_move_80 rfl ?_
                refine r_iload_n C dX12_move_81 rfl ?_
                refine r_iast C dX12_move_82 ag_LM_12 (fun i51 => ?_)
                refine WA.gen (fun σ52 => ?_)
                refine r_iload_n C dX12_move_83 rfl ?_
                exact r_iret C dX12_move_84 rfl rfl trivial
              · refine r_aload_n C dX12_move_57 rfl ?_
                refine r_bipush C (-3 : Int32) dX12_move_58 (by decide) ?_
                refine r_callV C (st := []) (As := [.int (-3 : Int32)]) (d := 0) (j := 0) dX12_move_60 ml_X12_197 vw_X12_refuseFar ⟨_, _, _, _, rfl, rfl⟩ (dm0 (by decide)) (fun r53 e => c_m_refuseFar Θ.1.2.1 (cW Θ) (cAd Θ) (cN Θ) σ (-3 : Int32) r53 e) rfl rfl (Nat.le_of_ble_eq_true rfl) ⟨rfl, rfl, by decide, by decide⟩ (fun r53 h54 => ?_)
                exact r_iret C dX12_move_63 rfl rfl trivial
      · refine r_aload_n C dX12_move_21 rfl ?_
        refine r_iconst C (-1 : Int32) dX12_move_22 (by decide) ?_
        refine r_callV C (st := []) (As := [.int (-1 : Int32)]) (d := 0) (j := 0) dX12_move_23 ml_X12_197 vw_X12_refuseFar ⟨_, _, _, _, rfl, rfl⟩ (dm0 (by decide)) (fun r55 e => c_m_refuseFar Θ.1.2.1 (cW Θ) (cAd Θ) (cN Θ) σ (-1 : Int32) r55 e) rfl rfl (Nat.le_of_ble_eq_true rfl) ⟨rfl, rfl, by decide, by decide⟩ (fun r55 h56 => ?_)
        exact r_iret C dX12_move_26 rfl rfl trivial
theorem c_m_move (l : Launch) (ω : Wd) (ad : Nat → Nat → Nat) (N : Nat → Nat) (σ : St) (a1 : Int32) (a2 : Int32) : ∀ r : Int32 × St, m_move σ a1 a2 = some r → Ct l yX12_move cX12_move 4 (some .int) ({ frames := 2, cells := 0, slots := 0, locals := 43 } : Room) LM ω ad N [.ref (ω.2.1 0), .int a1, .int a2] σ (some (.int r.1)) r.2 (True) :=
  ct_of (o := fun r : Int32 × St => (some (.int r.1))) (s' := fun r => r.2) (P := fun r => True) [some (.ref (ω.2.1 0)), some (.int a1), some (.int a2), none] (by decide) rfl (Nat.le_of_ble_eq_true rfl) (fun Γ C _ _ => w_m_move (Γ, ω, 4, ad, N, 0, 0) σ a1 a2 C)
/-- PostsEndModel.public int leave(int) -/
def m_leave (σ : St) (a1 : Int32) : Option (Int32 × St) := (Option.bind (m_isPerson σ a1) fun r1 => (if r1 = 0 then (Option.bind (m_refuse σ (-1 : Int32)) fun r11 => some (r11.1, r11.2)) else (Option.bind (m_isHere σ a1) fun r3 => (if r3 = 0 then (Option.bind (m_refuse σ (-3 : Int32)) fun r9 => some (r9.1, r9.2)) else (Option.bind (m_drop σ a1) fun r5 => (Option.bind (ix 40 a1) fun i7 => (lt1 (sx r5 0 14 i7 (r5.1 0 0 0)) fun σ8 => some ((1 : Int32), σ8))))))))
set_option maxRecDepth 20000 in
set_option maxHeartbeats 4000000 in
theorem w_m_leave (Θ : TT) (σ : St) (a1 : Int32) (C : CX Θ cX12_leave RX12 (some .int) ({ frames := 2, cells := 0, slots := 0, locals := 43 } : Room) 2) : WA LM Θ (fun r : Int32 × St => Qm LM Θ (some (.int r.1)) r.2 (True)) 0 [some (.ref (cF Θ 0)), some (.int a1)] [] σ (m_leave σ a1) := by
  unfold m_leave
  refine r_aload_n C dX12_leave_0 rfl ?_
  refine r_iload_n C dX12_leave_1 rfl ?_
  refine r_callV C (st := []) (As := [.int a1]) (d := 0) (j := 0) dX12_leave_2 ml_X12_194 vw_X12_isPerson ⟨_, _, _, _, rfl, rfl⟩ (dm0 (by decide)) (fun r1 e => c_m_isPerson Θ.1.2.1 (cW Θ) (cAd Θ) (cN Θ) σ a1 r1 e) rfl rfl (Nat.le_of_ble_eq_true rfl) ⟨rfl, rfl, by decide, by decide⟩ (fun r1 h2 => ?_)
  refine r_if_ne C 14 dX12_leave_5 (by decide) ?_ ?_
  · refine r_aload_n C dX12_leave_14 rfl ?_
    refine r_iload_n C dX12_leave_15 rfl ?_
    refine r_callV C (st := []) (As := [.int a1]) (d := 0) (j := 0) dX12_leave_16 ml_X12_200 vw_X12_isHere ⟨_, _, _, _, rfl, rfl⟩ (dm0 (by decide)) (fun r3 e => c_m_isHere Θ.1.2.1 (cW Θ) (cAd Θ) (cN Θ) σ a1 r3 e) rfl rfl (Nat.le_of_ble_eq_true rfl) ⟨rfl, rfl, by decide, by decide⟩ (fun r3 h4 => ?_)
    refine r_if_ne C 29 dX12_leave_19 (by decide) ?_ ?_
    · refine r_aload_n C dX12_leave_29 rfl ?_
      refine r_iload_n C dX12_leave_30 rfl ?_
      refine r_callV C (st := []) (As := [.int a1]) (d := 0) (j := 0) dX12_leave_31 ml_X12_184 vw_X12_drop ⟨_, _, _, _, rfl, rfl⟩ (dm0 (by decide)) (fun r5 e => c_m_drop Θ.1.2.1 (cW Θ) (cAd Θ) (cN Θ) σ a1 r5 e) rfl rfl (Nat.le_of_ble_eq_true rfl) ⟨rfl, rfl, by decide, by decide⟩ (fun r5 h6 => ?_)
      refine r_aload_n C dX12_leave_34 rfl ?_
      refine r_getF0 C dX12_leave_35 fg_X12_49 (by decide) ?_
      refine r_iload_n C dX12_leave_38 rfl ?_
      refine r_aload_n C dX12_leave_39 rfl ?_
      refine r_getI0 C dX12_leave_40 fg_X12_167 (by decide) ?_
      refine r_iast C dX12_leave_43 ag_LM_14 (fun i7 => ?_)
      refine WA.gen (fun σ8 => ?_)
      refine r_iconst C (1 : Int32) dX12_leave_44 (by decide) ?_
      exact r_iret C dX12_leave_45 rfl rfl trivial
    · refine r_aload_n C dX12_leave_22 rfl ?_
      refine r_bipush C (-3 : Int32) dX12_leave_23 (by decide) ?_
      refine r_callV C (st := []) (As := [.int (-3 : Int32)]) (d := 0) (j := 0) dX12_leave_25 ml_X12_174 vw_X12_refuse ⟨_, _, _, _, rfl, rfl⟩ (dm0 (by decide)) (fun r9 e => c_m_refuse Θ.1.2.1 (cW Θ) (cAd Θ) (cN Θ) σ (-3 : Int32) r9 e) rfl rfl (Nat.le_of_ble_eq_true rfl) ⟨rfl, rfl, by decide, by decide⟩ (fun r9 h10 => ?_)
      exact r_iret C dX12_leave_28 rfl rfl trivial
  · refine r_aload_n C dX12_leave_8 rfl ?_
    refine r_iconst C (-1 : Int32) dX12_leave_9 (by decide) ?_
    refine r_callV C (st := []) (As := [.int (-1 : Int32)]) (d := 0) (j := 0) dX12_leave_10 ml_X12_174 vw_X12_refuse ⟨_, _, _, _, rfl, rfl⟩ (dm0 (by decide)) (fun r11 e => c_m_refuse Θ.1.2.1 (cW Θ) (cAd Θ) (cN Θ) σ (-1 : Int32) r11 e) rfl rfl (Nat.le_of_ble_eq_true rfl) ⟨rfl, rfl, by decide, by decide⟩ (fun r11 h12 => ?_)
    exact r_iret C dX12_leave_13 rfl rfl trivial
theorem c_m_leave (l : Launch) (ω : Wd) (ad : Nat → Nat → Nat) (N : Nat → Nat) (σ : St) (a1 : Int32) : ∀ r : Int32 × St, m_leave σ a1 = some r → Ct l yX12_leave cX12_leave 2 (some .int) ({ frames := 2, cells := 0, slots := 0, locals := 43 } : Room) LM ω ad N [.ref (ω.2.1 0), .int a1] σ (some (.int r.1)) r.2 (True) :=
  ct_of (o := fun r : Int32 × St => (some (.int r.1))) (s' := fun r => r.2) (P := fun r => True) [some (.ref (ω.2.1 0)), some (.int a1)] (by decide) rfl (Nat.le_of_ble_eq_true rfl) (fun Γ C _ _ => w_m_leave (Γ, ω, 2, ad, N, 0, 0) σ a1 C)
theorem ag_LM_17 : AG LM 17 0 4 := ⟨by decide, rfl⟩
theorem fg_X12_65 : FG LM RX12 65 0 0 23 (1, 17) := ⟨_, _, _, _, _, rfl, rfl, rfl, by decide, uw_X12, (in_wt 1257 (by decide +kernel) (by decide +kernel))⟩
/-- PostsEndModel.public int weight(int, int) -/
def m_weight (σ : St) (a1 : Int32) (a2 : Int32) : Option (Int32 × St) := (Option.bind (m_in a1 (0 : Int32) (3 : Int32)) fun r1 => (if r1 = 0 then (Option.bind (m_refuse σ (-2 : Int32)) fun r10 => some (r10.1, r10.2)) else (if a2 < 0 then (Option.bind (m_refuse σ (-4 : Int32)) fun r8 => some (r8.1, r8.2)) else (if (20 : Int32) < a2 then (Option.bind (m_refuse σ (-6 : Int32)) fun r6 => some (r6.1, r6.2)) else (Option.bind (ix 4 a1) fun i3 => (Option.bind (ix 4 a1) fun i4 => (lt1 (sx σ 0 17 i4 a2) fun σ5 => some (σ.1 0 17 i3, σ5))))))))
set_option maxRecDepth 20000 in
set_option maxHeartbeats 4000000 in
theorem w_m_weight (Θ : TT) (σ : St) (a1 : Int32) (a2 : Int32) (C : CX Θ cX12_weight RX12 (some .int) ({ frames := 1, cells := 0, slots := 0, locals := 22 } : Room) 4) : WA LM Θ (fun r : Int32 × St => Qm LM Θ (some (.int r.1)) r.2 (True)) 0 [some (.ref (cF Θ 0)), some (.int a1), some (.int a2), none] [] σ (m_weight σ a1 a2) := by
  unfold m_weight
  refine r_iload_n C dX12_weight_0 rfl ?_
  refine r_iconst C (0 : Int32) dX12_weight_1 (by decide) ?_
  refine r_iconst C (3 : Int32) dX12_weight_2 (by decide) ?_
  refine r_callS C (st := []) (As := [.int a1, .int (0 : Int32), .int (3 : Int32)]) dX12_weight_3 ml_X12_157 sw_X12_in (fun r1 e => c_m_in Θ.1.2.1 (cW Θ) (cAd Θ) (cN Θ) σ a1 (0 : Int32) (3 : Int32) r1 e) rfl rfl (Nat.le_of_ble_eq_true rfl) ⟨rfl, rfl, by decide, by decide⟩ (fun r1 h2 => ?_)
  refine r_if_ne C 16 dX12_weight_6 (by decide) ?_ ?_
  · refine r_iload_n C dX12_weight_16 rfl ?_
    refine r_if_ge C 27 dX12_weight_17 (by decide) ?_ ?_
    · refine r_iload_n C dX12_weight_27 rfl ?_
      refine r_bipush C (20 : Int32) dX12_weight_28 (by decide) ?_
      refine r_icmp_le C 40 dX12_weight_30 (by decide) ?_ ?_
      · refine r_aload_n C dX12_weight_40 rfl ?_
        refine r_getF0 C dX12_weight_41 fg_X12_65 (by decide) ?_
        refine r_iload_n C dX12_weight_44 rfl ?_
        refine r_iald (α := Unit) C dX12_weight_45 ag_LM_17 (fun i3 => ?_)
        refine r_istore_n C [some (.ref (cF Θ 0)), some (.int a1), some (.int a2), some (.int (σ.1 0 17 i3))] dX12_weight_46 rfl (by decide) rfl ?_
        refine r_aload_n C dX12_weight_47 rfl ?_
        refine r_getF0 C dX12_weight_48 fg_X12_65 (by decide) ?_
        refine r_iload_n C dX12_weight_51 rfl ?_
        refine r_iload_n C dX12_weight_52 rfl ?_
        refine r_iast C dX12_weight_53 ag_LM_17 (fun i4 => ?_)
        refine WA.gen (fun σ5 => ?_)
        refine r_iload_n C dX12_weight_54 rfl ?_
        exact r_iret C dX12_weight_55 rfl rfl trivial
      · refine r_aload_n C dX12_weight_33 rfl ?_
        refine r_bipush C (-6 : Int32) dX12_weight_34 (by decide) ?_
        refine r_callV C (st := []) (As := [.int (-6 : Int32)]) (d := 0) (j := 0) dX12_weight_36 ml_X12_174 vw_X12_refuse ⟨_, _, _, _, rfl, rfl⟩ (dm0 (by decide)) (fun r6 e => c_m_refuse Θ.1.2.1 (cW Θ) (cAd Θ) (cN Θ) σ (-6 : Int32) r6 e) rfl rfl (Nat.le_of_ble_eq_true rfl) ⟨rfl, rfl, by decide, by decide⟩ (fun r6 h7 => ?_)
        exact r_iret C dX12_weight_39 rfl rfl trivial
    · refine r_aload_n C dX12_weight_20 rfl ?_
      refine r_bipush C (-4 : Int32) dX12_weight_21 (by decide) ?_
      refine r_callV C (st := []) (As := [.int (-4 : Int32)]) (d := 0) (j := 0) dX12_weight_23 ml_X12_174 vw_X12_refuse ⟨_, _, _, _, rfl, rfl⟩ (dm0 (by decide)) (fun r8 e => c_m_refuse Θ.1.2.1 (cW Θ) (cAd Θ) (cN Θ) σ (-4 : Int32) r8 e) rfl rfl (Nat.le_of_ble_eq_true rfl) ⟨rfl, rfl, by decide, by decide⟩ (fun r8 h9 => ?_)
      exact r_iret C dX12_weight_26 rfl rfl trivial
  · refine r_aload_n C dX12_weight_9 rfl ?_
    refine r_bipush C (-2 : Int32) dX12_weight_10 (by decide) ?_
    refine r_callV C (st := []) (As := [.int (-2 : Int32)]) (d := 0) (j := 0) dX12_weight_12 ml_X12_174 vw_X12_refuse ⟨_, _, _, _, rfl, rfl⟩ (dm0 (by decide)) (fun r10 e => c_m_refuse Θ.1.2.1 (cW Θ) (cAd Θ) (cN Θ) σ (-2 : Int32) r10 e) rfl rfl (Nat.le_of_ble_eq_true rfl) ⟨rfl, rfl, by decide, by decide⟩ (fun r10 h11 => ?_)
    exact r_iret C dX12_weight_15 rfl rfl trivial
theorem c_m_weight (l : Launch) (ω : Wd) (ad : Nat → Nat → Nat) (N : Nat → Nat) (σ : St) (a1 : Int32) (a2 : Int32) : ∀ r : Int32 × St, m_weight σ a1 a2 = some r → Ct l yX12_weight cX12_weight 4 (some .int) ({ frames := 1, cells := 0, slots := 0, locals := 22 } : Room) LM ω ad N [.ref (ω.2.1 0), .int a1, .int a2] σ (some (.int r.1)) r.2 (True) :=
  ct_of (o := fun r : Int32 × St => (some (.int r.1))) (s' := fun r => r.2) (P := fun r => True) [some (.ref (ω.2.1 0)), some (.int a1), some (.int a2), none] (by decide) rfl (Nat.le_of_ble_eq_true rfl) (fun Γ C _ _ => w_m_weight (Γ, ω, 4, ad, N, 0, 0) σ a1 a2 C)
theorem ag_LM_19 : AG LM 19 0 120 := ⟨by decide, rfl⟩
theorem ag_LM_20 : AG LM 20 0 120 := ⟨by decide, rfl⟩
theorem ag_LM_21 : AG LM 21 0 120 := ⟨by decide, rfl⟩
theorem ag_LM_22 : AG LM 22 0 120 := ⟨by decide, rfl⟩
theorem fg_X12_203 : FG LM RX12 203 0 0 25 (0, 0) := ⟨_, _, _, _, _, rfl, rfl, rfl, by decide, uw_X12, (in_wt 1259 (by decide +kernel) (by decide +kernel))⟩
theorem fg_X12_71 : FG LM RX12 71 0 0 26 (1, 19) := ⟨_, _, _, _, _, rfl, rfl, rfl, by decide, uw_X12, (in_wt 1260 (by decide +kernel) (by decide +kernel))⟩
theorem fg_X12_74 : FG LM RX12 74 0 0 27 (1, 20) := ⟨_, _, _, _, _, rfl, rfl, rfl, by decide, uw_X12, (in_wt 1261 (by decide +kernel) (by decide +kernel))⟩
theorem fg_X12_77 : FG LM RX12 77 0 0 28 (1, 21) := ⟨_, _, _, _, _, rfl, rfl, rfl, by decide, uw_X12, (in_wt 1262 (by decide +kernel) (by decide +kernel))⟩
theorem fg_X12_80 : FG LM RX12 80 0 0 29 (1, 22) := ⟨_, _, _, _, _, rfl, rfl, rfl, by decide, uw_X12, (in_wt 1263 (by decide +kernel) (by decide +kernel))⟩
theorem fp_X12_203 : FP LM RX12 203 0 0 25 (0, 0) .int := ⟨_, _, _, _, _, tyX12, rfl, rfl, rfl, by decide, uw_X12, (in_wt 1259 (by decide +kernel) (by decide +kernel)), tyX12_ok, nmX12, rfl, by decide +kernel⟩
/-- PostsEndModel.public int tell(int, int, int) -/
def m_tell (σ : St) (a1 : Int32) (a2 : Int32) (a3 : Int32) : Option (Int32 × St) := (Option.bind (m_isPerson σ a1) fun r1 => (if r1 = 0 then (Option.bind (m_refuse σ (-1 : Int32)) fun r25 => some (r25.1, r25.2)) else (Option.bind (m_in a2 (0 : Int32) (1 : Int32)) fun r3 => (if r3 = 0 then (Option.bind (m_refuse σ (-2 : Int32)) fun r23 => some (r23.1, r23.2)) else (if a3 < 0 then (Option.bind (m_refuse σ (-4 : Int32)) fun r21 => some (r21.1, r21.2)) else (Option.bind (α := Int32) ((if a2 = 0 then some (100 : Int32) else some (9 : Int32))) fun t5 => (if t5 < a3 then (Option.bind (m_refuse σ (-6 : Int32)) fun r8 => some (r8.1, r8.2)) else (if σ.1 0 0 25 = (120 : Int32) then (Option.bind (m_refuse σ (-6 : Int32)) fun r19 => some (r19.1, r19.2)) else (Option.bind (ix 120 (σ.1 0 0 25)) fun i10 => (lt1 (sx σ 0 19 i10 a1) fun σ11 => (Option.bind (ix 120 (σ11.1 0 0 25)) fun i12 => (lt1 (sx σ11 0 20 i12 a2) fun σ13 => (Option.bind (ix 120 (σ13.1 0 0 25)) fun i14 => (lt1 (sx σ13 0 21 i14 a3) fun σ15 => (Option.bind (ix 120 (σ15.1 0 0 25)) fun i16 => (lt1 (sx σ15 0 22 i16 (σ15.1 0 0 0)) fun σ17 => (lt1 (sx σ17 0 0 25 ((σ17.1 0 0 25) + (1 : Int32))) fun σ18 => some ((σ18.1 0 0 25) - (1 : Int32), σ18))))))))))))))))))
set_option maxRecDepth 20000 in
set_option maxHeartbeats 4000000 in
theorem w_m_tell (Θ : TT) (σ : St) (a1 : Int32) (a2 : Int32) (a3 : Int32) (C : CX Θ cX12_tell RX12 (some .int) ({ frames := 2, cells := 0, slots := 0, locals := 43 } : Room) 4) : WA LM Θ (fun r : Int32 × St => Qm LM Θ (some (.int r.1)) r.2 (True)) 0 [some (.ref (cF Θ 0)), some (.int a1), some (.int a2), some (.int a3)] [] σ (m_tell σ a1 a2 a3) := by
  unfold m_tell
  refine r_aload_n C dX12_tell_0 rfl ?_
  refine r_iload_n C dX12_tell_1 rfl ?_
  refine r_callV C (st := []) (As := [.int a1]) (d := 0) (j := 0) dX12_tell_2 ml_X12_194 vw_X12_isPerson ⟨_, _, _, _, rfl, rfl⟩ (dm0 (by decide)) (fun r1 e => c_m_isPerson Θ.1.2.1 (cW Θ) (cAd Θ) (cN Θ) σ a1 r1 e) rfl rfl (Nat.le_of_ble_eq_true rfl) ⟨rfl, rfl, by decide, by decide⟩ (fun r1 h2 => ?_)
  refine r_if_ne C 14 dX12_tell_5 (by decide) ?_ ?_
  · refine r_iload_n C dX12_tell_14 rfl ?_
    refine r_iconst C (0 : Int32) dX12_tell_15 (by decide) ?_
    refine r_iconst C (1 : Int32) dX12_tell_16 (by decide) ?_
    refine r_callS C (st := []) (As := [.int a2, .int (0 : Int32), .int (1 : Int32)]) dX12_tell_17 ml_X12_157 sw_X12_in (fun r3 e => c_m_in Θ.1.2.1 (cW Θ) (cAd Θ) (cN Θ) σ a2 (0 : Int32) (1 : Int32) r3 e) rfl rfl (Nat.le_of_ble_eq_true rfl) ⟨rfl, rfl, by decide, by decide⟩ (fun r3 h4 => ?_)
    refine r_if_ne C 30 dX12_tell_20 (by decide) ?_ ?_
    · refine r_iload_n C dX12_tell_30 rfl ?_
      refine r_if_ge C 41 dX12_tell_31 (by decide) ?_ ?_
      · refine r_iload_n C dX12_tell_41 rfl ?_
        refine r_iload_n C dX12_tell_42 rfl ?_
        refine WA.join (α := Int32) 53 (fun t5 => [some (.ref (cF Θ 0)), some (.int a1), some (.int a2), some (.int a3)]) (fun t5 => [.int t5, .int a3]) (fun t5 => σ) (fun t5 => True) (fun t5 h6 => ?_) (fun J7 => ?_)
        · refine r_icmp_gt C 65 dX12_tell_53 (by decide) ?_ ?_
          · refine r_aload_n C dX12_tell_65 rfl ?_
            refine r_bipush C (-6 : Int32) dX12_tell_66 (by decide) ?_
            refine r_callV C (st := []) (As := [.int (-6 : Int32)]) (d := 0) (j := 0) dX12_tell_68 ml_X12_174 vw_X12_refuse ⟨_, _, _, _, rfl, rfl⟩ (dm0 (by decide)) (fun r8 e => c_m_refuse Θ.1.2.1 (cW Θ) (cAd Θ) (cN Θ) σ (-6 : Int32) r8 e) rfl rfl (Nat.le_of_ble_eq_true rfl) ⟨rfl, rfl, by decide, by decide⟩ (fun r8 h9 => ?_)
            exact r_iret C dX12_tell_71 rfl rfl trivial
          · refine r_aload_n C dX12_tell_56 rfl ?_
            refine r_getI0 C dX12_tell_57 fg_X12_203 (by decide) ?_
            refine r_bipush C (120 : Int32) dX12_tell_60 (by decide) ?_
            refine r_icmp_ne C 72 dX12_tell_62 (by decide) ?_ ?_
            · refine r_aload_n C dX12_tell_72 rfl ?_
              refine r_getF0 C dX12_tell_73 fg_X12_71 (by decide) ?_
              refine r_aload_n C dX12_tell_76 rfl ?_
              refine r_getI0 C dX12_tell_77 fg_X12_203 (by decide) ?_
              refine r_iload_n C dX12_tell_80 rfl ?_
              refine r_iast C dX12_tell_81 ag_LM_19 (fun i10 => ?_)
              refine WA.gen (fun σ11 => ?_)
              refine r_aload_n C dX12_tell_82 rfl ?_
              refine r_getF0 C dX12_tell_83 fg_X12_74 (by decide) ?_
              refine r_aload_n C dX12_tell_86 rfl ?_
              refine r_getI0 C dX12_tell_87 fg_X12_203 (by decide) ?_
              refine r_iload_n C dX12_tell_90 rfl ?_
              refine r_iast C dX12_tell_91 ag_LM_20 (fun i12 => ?_)
              refine WA.gen (fun σ13 => ?_)
              refine r_aload_n C dX12_tell_92 rfl ?_
              refine r_getF0 C dX12_tell_93 fg_X12_77 (by decide) ?_
              refine r_aload_n C dX12_tell_96 rfl ?_
              refine r_getI0 C dX12_tell_97 fg_X12_203 (by decide) ?_
              refine r_iload_n C dX12_tell_100 rfl ?_
              refine r_iast C dX12_tell_101 ag_LM_21 (fun i14 => ?_)
              refine WA.gen (fun σ15 => ?_)
              refine r_aload_n C dX12_tell_102 rfl ?_
              refine r_getF0 C dX12_tell_103 fg_X12_80 (by decide) ?_
              refine r_aload_n C dX12_tell_106 rfl ?_
              refine r_getI0 C dX12_tell_107 fg_X12_203 (by decide) ?_
              refine r_aload_n C dX12_tell_110 rfl ?_
              refine r_getI0 C dX12_tell_111 fg_X12_167 (by decide) ?_
              refine r_iast C dX12_tell_114 ag_LM_22 (fun i16 => ?_)
              refine WA.gen (fun σ17 => ?_)
              refine r_aload_n C dX12_tell_115 rfl ?_
              refine r_dup C dX12_tell_116 rfl ?_
              refine r_getI0 C dX12_tell_117 fg_X12_203 (by decide) ?_
              refine r_iconst C (1 : Int32) dX12_tell_120 (by decide) ?_
              refine r_iadd C dX12_tell_121 ?_
              refine r_putI0 C dX12_tell_122 fp_X12_203 (by decide) ?_
              refine WA.gen (fun σ18 => ?_)
              refine r_aload_n C dX12_tell_125 rfl ?_
              refine r_getI0 C dX12_tell_126 fg_X12_203 (by decide) ?_
              refine r_iconst C (1 : Int32) dX12_tell_129 (by decide) ?_
              refine r_isub C dX12_tell_130 ?_
              exact r_iret C dX12_tell_131 rfl rfl trivial
            · refine r_aload_n C dX12_tell_65 rfl ?_
              refine r_bipush C (-6 : Int32) dX12_tell_66 (by decide) ?_
              refine r_callV C (st := []) (As := [.int (-6 : Int32)]) (d := 0) (j := 0) dX12_tell_68 ml_X12_174 vw_X12_refuse ⟨_, _, _, _, rfl, rfl⟩ (dm0 (by decide)) (fun r19 e => c_m_refuse Θ.1.2.1 (cW Θ) (cAd Θ) (cN Θ) σ (-6 : Int32) r19 e) rfl rfl (Nat.le_of_ble_eq_true rfl) ⟨rfl, rfl, by decide, by decide⟩ (fun r19 h20 => ?_)
              exact r_iret C dX12_tell_71 rfl rfl trivial
        · refine WA.bif ?_
          refine r_if_ne C 51 dX12_tell_43 (by decide) ?_ ?_
          · refine r_bipush C (9 : Int32) dX12_tell_51 (by decide) ?_
            refine WA.wk (lv' := [some (.ref (cF Θ 0)), some (.int a1), some (.int a2), some (.int a3)]) [true, true, true, true] rfl ?_
            exact J7 (9 : Int32) trivial
          · refine r_bipush C (100 : Int32) dX12_tell_46 (by decide) ?_
            refine r_goto C 53 dX12_tell_48 (by decide) ?_
            refine WA.wk (lv' := [some (.ref (cF Θ 0)), some (.int a1), some (.int a2), some (.int a3)]) [true, true, true, true] rfl ?_
            exact J7 (100 : Int32) trivial
      · refine r_aload_n C dX12_tell_34 rfl ?_
        refine r_bipush C (-4 : Int32) dX12_tell_35 (by decide) ?_
        refine r_callV C (st := []) (As := [.int (-4 : Int32)]) (d := 0) (j := 0) dX12_tell_37 ml_X12_174 vw_X12_refuse ⟨_, _, _, _, rfl, rfl⟩ (dm0 (by decide)) (fun r21 e => c_m_refuse Θ.1.2.1 (cW Θ) (cAd Θ) (cN Θ) σ (-4 : Int32) r21 e) rfl rfl (Nat.le_of_ble_eq_true rfl) ⟨rfl, rfl, by decide, by decide⟩ (fun r21 h22 => ?_)
        exact r_iret C dX12_tell_40 rfl rfl trivial
    · refine r_aload_n C dX12_tell_23 rfl ?_
      refine r_bipush C (-2 : Int32) dX12_tell_24 (by decide) ?_
      refine r_callV C (st := []) (As := [.int (-2 : Int32)]) (d := 0) (j := 0) dX12_tell_26 ml_X12_174 vw_X12_refuse ⟨_, _, _, _, rfl, rfl⟩ (dm0 (by decide)) (fun r23 e => c_m_refuse Θ.1.2.1 (cW Θ) (cAd Θ) (cN Θ) σ (-2 : Int32) r23 e) rfl rfl (Nat.le_of_ble_eq_true rfl) ⟨rfl, rfl, by decide, by decide⟩ (fun r23 h24 => ?_)
      exact r_iret C dX12_tell_29 rfl rfl trivial
  · refine r_aload_n C dX12_tell_8 rfl ?_
    refine r_iconst C (-1 : Int32) dX12_tell_9 (by decide) ?_
    refine r_callV C (st := []) (As := [.int (-1 : Int32)]) (d := 0) (j := 0) dX12_tell_10 ml_X12_174 vw_X12_refuse ⟨_, _, _, _, rfl, rfl⟩ (dm0 (by decide)) (fun r25 e => c_m_refuse Θ.1.2.1 (cW Θ) (cAd Θ) (cN Θ) σ (-1 : Int32) r25 e) rfl rfl (Nat.le_of_ble_eq_true rfl) ⟨rfl, rfl, by decide, by decide⟩ (fun r25 h26 => ?_)
    exact r_iret C dX12_tell_13 rfl rfl trivial
theorem c_m_tell (l : Launch) (ω : Wd) (ad : Nat → Nat → Nat) (N : Nat → Nat) (σ : St) (a1 : Int32) (a2 : Int32) (a3 : Int32) : ∀ r : Int32 × St, m_tell σ a1 a2 a3 = some r → Ct l yX12_tell cX12_tell 4 (some .int) ({ frames := 2, cells := 0, slots := 0, locals := 43 } : Room) LM ω ad N [.ref (ω.2.1 0), .int a1, .int a2, .int a3] σ (some (.int r.1)) r.2 (True) :=
  ct_of (o := fun r : Int32 × St => (some (.int r.1))) (s' := fun r => r.2) (P := fun r => True) [some (.ref (ω.2.1 0)), some (.int a1), some (.int a2), some (.int a3)] (by decide) rfl (Nat.le_of_ble_eq_true rfl) (fun Γ C _ _ => w_m_tell (Γ, ω, 4, ad, N, 0, 0) σ a1 a2 a3 C)
/-- PostsEndModel.private boolean isTelling(int) -/
def m_isTelling (σ : St) (a1 : Int32) : Option Int32 := (Option.bind (m_in a1 (0 : Int32) ((σ.1 0 0 25) - (1 : Int32))) fun r1 => some r1)
set_option maxRecDepth 20000 in
set_option maxHeartbeats 4000000 in
theorem w_m_isTelling (Θ : TT) (σ : St) (a1 : Int32) (C : CX Θ cX12_isTelling RX12 (some .boolean) ({ frames := 1, cells := 0, slots := 0, locals := 22 } : Room) 2) : WA LM Θ (fun r : Int32 => Qm LM Θ (some (.int r)) σ (narrow .boolean (.int r) = .int r)) 0 [some (.ref (cF Θ 0)), some (.int a1)] [] σ (m_isTelling σ a1) := by
  unfold m_isTelling
  refine r_iload_n C dX12_isTelling_0 rfl ?_
  refine r_iconst C (0 : Int32) dX12_isTelling_1 (by decide) ?_
  refine r_aload_n C dX12_isTelling_2 rfl ?_
  refine r_getI0 C dX12_isTelling_3 fg_X12_203 (by decide) ?_
  refine r_iconst C (1 : Int32) dX12_isTelling_6 (by decide) ?_
  refine r_isub C dX12_isTelling_7 ?_
  refine r_callS C (st := []) (As := [.int a1, .int (0 : Int32), .int ((σ.1 0 0 25) - (1 : Int32))]) dX12_isTelling_8 ml_X12_157 sw_X12_in (fun r1 e => c_m_in Θ.1.2.1 (cW Θ) (cAd Θ) (cN Θ) σ a1 (0 : Int32) ((σ.1 0 0 25) - (1 : Int32)) r1 e) rfl rfl (Nat.le_of_ble_eq_true rfl) ⟨rfl, rfl, by decide, by decide⟩ (fun r1 h2 => ?_)
  exact r_zret C dX12_isTelling_11 h2 rfl rfl h2
theorem c_m_isTelling (l : Launch) (ω : Wd) (ad : Nat → Nat → Nat) (N : Nat → Nat) (σ : St) (a1 : Int32) : ∀ r : Int32, m_isTelling σ a1 = some r → Ct l yX12_isTelling cX12_isTelling 2 (some .boolean) ({ frames := 1, cells := 0, slots := 0, locals := 22 } : Room) LM ω ad N [.ref (ω.2.1 0), .int a1] σ (some (.int r)) σ (narrow .boolean (.int r) = .int r) :=
  ct_of (o := fun r : Int32 => (some (.int r))) (s' := fun r => σ) (P := fun r => narrow .boolean (.int r) = .int r) [some (.ref (ω.2.1 0)), some (.int a1)] (by decide) rfl (Nat.le_of_ble_eq_true rfl) (fun Γ C _ _ => w_m_isTelling (Γ, ω, 2, ad, N, 0, 0) σ a1 C)
theorem ag_LM_23 : AG LM 23 0 61 := ⟨by decide, rfl⟩
theorem ag_LM_24 : AG LM 24 0 61 := ⟨by decide, rfl⟩
theorem ag_LM_25 : AG LM 25 0 61 := ⟨by decide, rfl⟩
theorem fg_X12_206 : FG LM RX12 206 0 0 30 (0, 0) := ⟨_, _, _, _, _, rfl, rfl, rfl, by decide, uw_X12, (in_wt 1264 (by decide +kernel) (by decide +kernel))⟩
theorem fg_X12_83 : FG LM RX12 83 0 0 31 (1, 23) := ⟨_, _, _, _, _, rfl, rfl, rfl, by decide, uw_X12, (in_wt 1265 (by decide +kernel) (by decide +kernel))⟩
theorem fg_X12_86 : FG LM RX12 86 0 0 32 (1, 24) := ⟨_, _, _, _, _, rfl, rfl, rfl, by decide, uw_X12, (in_wt 1266 (by decide +kernel) (by decide +kernel))⟩
theorem fg_X12_89 : FG LM RX12 89 0 0 33 (1, 25) := ⟨_, _, _, _, _, rfl, rfl, rfl, by decide, uw_X12, (in_wt 1267 (by decide +kernel) (by decide +kernel))⟩
theorem fp_X12_206 : FP LM RX12 206 0 0 30 (0, 0) .int := ⟨_, _, _, _, _, tyX12, rfl, rfl, rfl, by decide, uw_X12, (in_wt 1264 (by decide +kernel) (by decide +kernel)), tyX12_ok, nmX12, rfl, by decide +kernel⟩
/-- PostsEndModel.private void putRight(int, int) -/
def m_putRight (σ : St) (a1 : Int32) (a2 : Int32) : Option St := (Option.bind (ix 61 (σ.1 0 0 30)) fun i1 => (lt1 (sx σ 0 23 i1 a1) fun σ2 => (Option.bind (ix 61 (σ2.1 0 0 30)) fun i3 => (lt1 (sx σ2 0 24 i3 a2) fun σ4 => (Option.bind (ix 61 (σ4.1 0 0 30)) fun i5 => (lt1 (sx σ4 0 25 i5 (σ4.1 0 0 0)) fun σ6 => (lt1 (sx σ6 0 0 30 ((σ6.1 0 0 30) + (1 : Int32))) fun σ7 => some σ7)))))))
set_option maxRecDepth 20000 in
set_option maxHeartbeats 4000000 in
theorem w_m_putRight (Θ : TT) (σ : St) (a1 : Int32) (a2 : Int32) (C : CX Θ cX12_putRight RX12 none ({ frames := 0, cells := 0, slots := 0, locals := 0 } : Room) 3) : WA LM Θ (fun r : St => Qm LM Θ none r (True)) 0 [some (.ref (cF Θ 0)), some (.int a1), some (.int a2)] [] σ (m_putRight σ a1 a2) := by
  unfold m_putRight
  refine r_aload_n C dX12_putRight_0 rfl ?_
  refine r_getF0 C dX12_putRight_1 fg_X12_83 (by decide) ?_
  refine r_aload_n C dX12_putRight_4 rfl ?_
  refine r_getI0 C dX12_putRight_5 fg_X12_206 (by decide) ?_
  refine r_iload_n C dX12_putRight_8 rfl ?_
  refine r_iast C dX12_putRight_9 ag_LM_23 (fun i1 => ?_)
  refine WA.gen (fun σ2 => ?_)
  refine r_aload_n C dX12_putRight_10 rfl ?_
  refine r_getF0 C dX12_putRight_11 fg_X12_86 (by decide) ?_
  refine r_aload_n C dX12_putRight_14 rfl ?_
  refine r_getI0 C dX12_putRight_15 fg_X12_206 (by decide) ?_
  refine r_iload_n C dX12_putRight_18 rfl ?_
  refine r_iast C dX12_putRight_19 ag_LM_24 (fun i3 => ?_)
  refine WA.gen (fun σ4 => ?_)
  refine r_aload_n C dX12_putRight_20 rfl ?_
  refine r_getF0 C dX12_putRight_21 fg_X12_89 (by decide) ?_
  refine r_aload_n C dX12_putRight_24 rfl ?_
  refine r_getI0 C dX12_putRight_25 fg_X12_206 (by decide) ?_
  refine r_aload_n C dX12_putRight_28 rfl ?_
  refine r_getI0 C dX12_putRight_29 fg_X12_167 (by decide) ?_
  refine r_iast C dX12_putRight_32 ag_LM_25 (fun i5 => ?_)
  refine WA.gen (fun σ6 => ?_)
  refine r_aload_n C dX12_putRight_33 rfl ?_
  refine r_dup C dX12_putRight_34 rfl ?_
  refine r_getI0 C dX12_putRight_35 fg_X12_206 (by decide) ?_
  refine r_iconst C (1 : Int32) dX12_putRight_38 (by decide) ?_
  refine r_iadd C dX12_putRight_39 ?_
  refine r_putI0 C dX12_putRight_40 fp_X12_206 (by decide) ?_
  refine WA.gen (fun σ7 => ?_)
  exact r_vret C dX12_putRight_43 rfl rfl trivial
theorem c_m_putRight (l : Launch) (ω : Wd) (ad : Nat → Nat → Nat) (N : Nat → Nat) (σ : St) (a1 : Int32) (a2 : Int32) : ∀ r : St, m_putRight σ a1 a2 = some r → Ct l yX12_putRight cX12_putRight 3 none ({ frames := 0, cells := 0, slots := 0, locals := 0 } : Room) LM ω ad N [.ref (ω.2.1 0), .int a1, .int a2] σ none r (True) :=
  ct_of (o := fun r : St => none) (s' := fun r => r) (P := fun r => True) [some (.ref (ω.2.1 0)), some (.int a1), some (.int a2)] (by decide) rfl (Nat.le_of_ble_eq_true rfl) (fun Γ C _ _ => w_m_putRight (Γ, ω, 3, ad, N, 0, 0) σ a1 a2 C)
theorem vw_X12_isTelling : VW yX12_isTelling cX12_isTelling 2 (some .boolean) 1 := ⟨⟨(in_wt 88 (by decide +kernel) (by decide +kernel)), (in_wt 1525 (by decide +kernel) (by decide +kernel)), by decide +kernel⟩, (in_wt 1524 (by decide +kernel) (by decide +kernel)), (in_wt 49 (by decide +kernel) (by decide +kernel))⟩
theorem vw_X12_putRight : VW yX12_putRight cX12_putRight 3 none 2 := ⟨⟨(in_wt 88 (by decide +kernel) (by decide +kernel)), (in_wt 1529 (by decide +kernel) (by decide +kernel)), by decide +kernel⟩, (in_wt 1528 (by decide +kernel) (by decide +kernel)), (in_wt 50 (by decide +kernel) (by decide +kernel))⟩
theorem ml_X12_209 : Cond.methodLink RX12 209 yX12_isTelling ∈ wt := in_wt 1522 (by decide +kernel) (by decide +kernel)
theorem ml_X12_212 : Cond.methodLink RX12 212 yX12_putRight ∈ wt := in_wt 1526 (by decide +kernel) (by decide +kernel)
/-- PostsEndModel.public int right(int, int) -/
def m_right (σ : St) (a1 : Int32) (a2 : Int32) : Option (Int32 × St) := (Option.bind (m_isTelling σ a1) fun r1 => (if r1 = 0 then (Option.bind (m_refuse σ (-1 : Int32)) fun r27 => some (r27.1, r27.2)) else (if a2 < 0 then (Option.bind (m_refuse σ (-4 : Int32)) fun r25 => some (r25.1, r25.2)) else (Option.bind (ix 120 a1) fun i3 => (Option.bind (α := Int32) ((if σ.1 0 20 i3 = 0 then some (100 : Int32) else some (9 : Int32))) fun t4 => (if t4 < a2 then (Option.bind (m_refuse σ (-6 : Int32)) fun r7 => some (r7.1, r7.2)) else (if σ.1 0 0 30 = (60 : Int32) then (Option.bind (m_refuse σ (-6 : Int32)) fun r23 => some (r23.1, r23.2)) else (Option.bind (m_putRight σ a1 a2) fun r9 => (Option.bind (itr0 (S := Int32 × Int32) (E := Int32) (fun s11 => (if s11.2 < r9.1 0 0 30 then (Option.bind (ix 61 s11.2) fun i19 => (Option.bind (α := Int32) ((if r9.1 0 23 i19 = a1 then some (1 : Int32) else some (0 : Int32))) fun t20 => some (.inl (s11.1 + t20, s11.2 + (1 : Int32))))) else some (.inr s11.1))) FU ((0 : Int32), (0 : Int32))) fun e16 => some (e16, r9))))))))))
set_option maxRecDepth 20000 in
set_option maxHeartbeats 4000000 in
theorem w_m_right (Θ : TT) (σ : St) (a1 : Int32) (a2 : Int32) (C : CX Θ cX12_right RX12 (some .int) ({ frames := 2, cells := 0, slots := 0, locals := 43 } : Room) 5) : WA LM Θ (fun r : Int32 × St => Qm LM Θ (some (.int r.1)) r.2 (True)) 0 [some (.ref (cF Θ 0)), some (.int a1), some (.int a2), none, none] [] σ (m_right σ a1 a2) := by
  unfold m_right
  refine r_aload_n C dX12_right_0 rfl ?_
  refine r_iload_n C dX12_right_1 rfl ?_
  refine r_callV C (st := []) (As := [.int a1]) (d := 0) (j := 0) dX12_right_2 ml_X12_209 vw_X12_isTelling ⟨_, _, _, _, rfl, rfl⟩ (dm0 (by decide)) (fun r1 e => c_m_isTelling Θ.1.2.1 (cW Θ) (cAd Θ) (cN Θ) σ a1 r1 e) rfl rfl (Nat.le_of_ble_eq_true rfl) ⟨rfl, rfl, by decide, by decide⟩ (fun r1 h2 => ?_)
  refine r_if_ne C 14 dX12_right_5 (by decide) ?_ ?_
  · refine r_iload_n C dX12_right_14 rfl ?_
    refine r_if_ge C 25 dX12_right_15 (by decide) ?_ ?_
    · refine r_iload_n C dX12_right_25 rfl ?_
      refine r_aload_n C dX12_right_26 rfl ?_
      refine r_getF0 C dX12_right_27 fg_X12_74 (by decide) ?_
      refine r_iload_n C dX12_right_30 rfl ?_
      refine r_iald (α := Unit) C dX12_right_31 ag_LM_20 (fun i3 => ?_)
      refine WA.join (α := Int32) 42 (fun t4 => [some (.ref (cF Θ 0)), some (.int a1), some (.int a2), none, none]) (fun t4 => [.int t4, .int a2]) (fun t4 => σ) (fun t4 => True) (fun t4 h5 => ?_) (fun J6 => ?_)
      · refine r_icmp_gt C 54 dX12_right_42 (by decide) ?_ ?_
        · refine r_aload_n C dX12_right_54 rfl ?_
          refine r_bipush C (-6 : Int32) dX12_right_55 (by decide) ?_
          refine r_callV C (st := []) (As := [.int (-6 : Int32)]) (d := 0) (j := 0) dX12_right_57 ml_X12_174 vw_X12_refuse ⟨_, _, _, _, rfl, rfl⟩ (dm0 (by decide)) (fun r7 e => c_m_refuse Θ.1.2.1 (cW Θ) (cAd Θ) (cN Θ) σ (-6 : Int32) r7 e) rfl rfl (Nat.le_of_ble_eq_true rfl) ⟨rfl, rfl, by decide, by decide⟩ (fun r7 h8 => ?_)
          exact r_iret C dX12_right_60 rfl rfl trivial
        · refine r_aload_n C dX12_right_45 rfl ?_
          refine r_getI0 C dX12_right_46 fg_X12_206 (by decide) ?_
          refine r_bipush C (60 : Int32) dX12_right_49 (by decide) ?_
          refine r_icmp_ne C 61 dX12_right_51 (by decide) ?_ ?_
          · refine r_aload_n C dX12_right_61 rfl ?_
            refine r_iload_n C dX12_right_62 rfl ?_
            refine r_iload_n C dX12_right_63 rfl ?_
            refine r_callV C (st := []) (As := [.int a1, .int a2]) (d := 0) (j := 0) dX12_right_64 ml_X12_212 vw_X12_putRight ⟨_, _, _, _, rfl, rfl⟩ (dm0 (by decide)) (fun r9 e => c_m_putRight Θ.1.2.1 (cW Θ) (cAd Θ) (cN Θ) σ a1 a2 r9 e) rfl rfl (Nat.le_of_ble_eq_true rfl) ⟨rfl, rfl, by decide, by decide⟩ (fun r9 h10 => ?_)
            refine r_iconst C (0 : Int32) dX12_right_67 (by decide) ?_
            refine r_istore_n C [some (.ref (cF Θ 0)), some (.int a1), some (.int a2), some (.int (0 : Int32)), none] dX12_right_68 rfl (by decide) rfl ?_
            refine r_iconst C (0 : Int32) dX12_right_69 (by decide) ?_
            refine r_istore C [some (.ref (cF Θ 0)), some (.int a1), some (.int a2), some (.int (0 : Int32)), some (.int (0 : Int32))] dX12_right_70 rfl (by decide) rfl ?_
            refine WA.join (α := Int32) 106 (fun e16 => [none, none, none, some (.int e16), none]) (fun e16 => []) (fun e16 => r9) (fun e16 => True) (fun e16 h17 => ?_) (fun J18 => ?_)
            · refine r_iload_n C dX12_right_106 rfl ?_
              exact r_iret C dX12_right_107 rfl rfl trivial
            · refine WA.wk (lv' := [some (.ref (cF Θ 0)), some (.int a1), none, some (.int (0 : Int32)), some (.int (0 : Int32))]) [true, true, false, true, true] rfl ?_
              refine WA.itr (S := Int32 × Int32) 72 (fun s11 => [some (.ref (cF Θ 0)), some (.int a1), none, some (.int s11.1), some (.int s11.2)]) (fun s11 => []) (fun s11 => r9) (fun s11 => True) (fun s11 k15 h12 ih13 hx14 => ?_) FU ((0 : Int32), (0 : Int32)) trivial
              refine r_iload C dX12_right_72 rfl ?_
              refine r_aload_n C dX12_right_74 rfl ?_
              refine r_getI0 C dX12_right_75 fg_X12_206 (by decide) ?_
              refine WA.bif ?_
              refine r_icmp_ge C 106 dX12_right_78 (by decide) ?_ ?_
              · refine WA.wk (lv' := [none, none, none, some (.int s11.1), none]) [false, false, false, true, false] rfl ?_
                exact WA.eqK (hx14 _) (J18 s11.1 trivial)
              · refine r_iload_n C dX12_right_81 rfl ?_
                refine r_aload_n C dX12_right_82 rfl ?_
                refine r_getF0 C dX12_right_83 fg_X12_83 (by decide) ?_
                refine r_iload C dX12_right_86 rfl ?_
                refine WA.asc ?_
                refine r_iald (α := Unit) C dX12_right_88 ag_LM_23 (fun i19 => ?_)
                refine r_iload_n C dX12_right_89 rfl ?_
                refine WA.asc ?_
                refine WA.join (α := Int32) 98 (fun t20 => [some (.ref (cF Θ 0)), some (.int a1), none, none, some (.int s11.2)]) (fun t20 => [.int t20, .int s11.1]) (fun t20 => r9) (fun t20 => True) (fun t20 h21 => ?_) (fun J22 => ?_)
                · refine r_iadd C dX12_right_98 ?_
                  refine r_istore_n C [some (.ref (cF Θ 0)), some (.int a1), none, some (.int (s11.1 + t20)), some (.int s11.2)] dX12_right_99 rfl (by decide) rfl ?_
                  refine r_iinc C (1 : Int32) [some (.ref (cF Θ 0)), some (.int a1), none, some (.int (s11.1 + t20)), some (.int (s11.2 + (1 : Int32)))] dX12_right_100 (by decide) rfl rfl (by decide) rfl ?_
                  refine r_goto C 72 dX12_right_103 (by decide) ?_
                  refine WA.wk (lv' := [some (.ref (cF Θ 0)), some (.int a1), none, some (.int (s11.1 + t20)), some (.int (s11.2 + (1 : Int32)))]) [true, true, false, true, true] rfl ?_
                  exact ih13 (s11.1 + t20, s11.2 + (1 : Int32)) trivial
                · refine WA.bif ?_
                  refine r_icmp_ne C 97 dX12_right_90 (by decide) ?_ ?_
                  · refine r_iconst C (0 : Int32) dX12_right_97 (by decide) ?_
                    refine WA.wk (lv' := [some (.ref (cF Θ 0)), some (.int a1), none, none, some (.int s11.2)]) [true, true, false, false, true] rfl ?_
                    exact J22 (0 : Int32) trivial
                  · refine r_iconst C (1 : Int32) dX12_right_93 (by decide) ?_
                    refine r_goto C 98 dX12_right_94 (by decide) ?_
                    refine WA.wk (lv' := [some (.ref (cF Θ 0)), some (.int a1), none, none, some (.int s11.2)]) [true, true, false, false, true] rfl ?_
                    exact J22 (1 : Int32) trivial
          · refine r_aload_n C dX12_right_54 rfl ?_
            refine r_bipush C (-6 : Int32) dX12_right_55 (by decide) ?_
            refine r_callV C (st := []) (As := [.int (-6 : Int32)]) (d := 0) (j := 0) dX12_right_57 ml_X12_174 vw_X12_refuse ⟨_, _, _, _, rfl, rfl⟩ (dm0 (by decide)) (fun r23 e => c_m_refuse Θ.1.2.1 (cW Θ) (cAd Θ) (cN Θ) σ (-6 : Int32) r23 e) rfl rfl (Nat.le_of_ble_eq_true rfl) ⟨rfl, rfl, by decide, by decide⟩ (fun r23 h24 => ?_)
            exact r_iret C dX12_right_60 rfl rfl trivial
      · refine WA.bif ?_
        refine r_if_ne C 40 dX12_right_32 (by decide) ?_ ?_
        · refine r_bipush C (9 : Int32) dX12_right_40 (by decide) ?_
          refine WA.wk (lv' := [some (.ref (cF Θ 0)), some (.int a1), some (.int a2), none, none]) [true, true, true, false, false] rfl ?_
          exact J6 (9 : Int32) trivial
        · refine r_bipush C (100 : Int32) dX12_right_35 (by decide) ?_
          refine r_goto C 42 dX12_right_37 (by decide) ?_
          refine WA.wk (lv' := [some (.ref (cF Θ 0)), some (.int a1), some (.int a2), none, none]) [true, true, true, false, false] rfl ?_
          exact J6 (100 : Int32) trivial
    · refine r_aload_n C dX12_right_18 rfl ?_
      refine r_bipush C (-4 : Int32) dX12_right_19 (by decide) ?_
      refine r_callV C (st := []) (As := [.int (-4 : Int32)]) (d := 0) (j := 0) dX12_right_21 ml_X12_174 vw_X12_refuse ⟨_, _, _, _, rfl, rfl⟩ (dm0 (by decide)) (fun r25 e => c_m_refuse Θ.1.2.1 (cW Θ) (cAd Θ) (cN Θ) σ (-4 : Int32) r25 e) rfl rfl (Nat.le_of_ble_eq_true rfl) ⟨rfl, rfl, by decide, by decide⟩ (fun r25 h26 => ?_)
      exact r_iret C dX12_right_24 rfl rfl trivial
  · refine r_aload_n C dX12_right_8 rfl ?_
    refine r_iconst C (-1 : Int32) dX12_right_9 (by decide) ?_
    refine r_callV C (st := []) (As := [.int (-1 : Int32)]) (d := 0) (j := 0) dX12_right_10 ml_X12_174 vw_X12_refuse ⟨_, _, _, _, rfl, rfl⟩ (dm0 (by decide)) (fun r27 e => c_m_refuse Θ.1.2.1 (cW Θ) (cAd Θ) (cN Θ) σ (-1 : Int32) r27 e) rfl rfl (Nat.le_of_ble_eq_true rfl) ⟨rfl, rfl, by decide, by decide⟩ (fun r27 h28 => ?_)
    exact r_iret C dX12_right_13 rfl rfl trivial
theorem c_m_right (l : Launch) (ω : Wd) (ad : Nat → Nat → Nat) (N : Nat → Nat) (σ : St) (a1 : Int32) (a2 : Int32) : ∀ r : Int32 × St, m_right σ a1 a2 = some r → Ct l yX12_right cX12_right 5 (some .int) ({ frames := 2, cells := 0, slots := 0, locals := 43 } : Room) LM ω ad N [.ref (ω.2.1 0), .int a1, .int a2] σ (some (.int r.1)) r.2 (True) :=
  ct_of (o := fun r : Int32 × St => (some (.int r.1))) (s' := fun r => r.2) (P := fun r => True) [some (.ref (ω.2.1 0)), some (.int a1), some (.int a2), none, none] (by decide) rfl (Nat.le_of_ble_eq_true rfl) (fun Γ C _ _ => w_m_right (Γ, ω, 5, ad, N, 0, 0) σ a1 a2 C)
/-- PostsEndModel.private int knownOf(int, int, int) -/
def m_knownOf (σ : St) (a1 : Int32) (a2 : Int32) (a3 : Int32) : Option Int32 := (Option.bind (itr0 (S := Int32 × Int32) (E := Int32) (fun s1 => (if s1.2 < σ.1 0 0 25 then (Option.bind (ix 120 s1.2) fun i27 => (Option.bind (α := Int32) ((if σ.1 0 19 i27 = a1 then (Option.bind (ix 120 s1.2) fun i31 => (if σ.1 0 20 i31 = a2 then (Option.bind (ix 120 s1.2) fun i32 => (if a3 < σ.1 0 22 i32 then some s1.1 else some s1.2)) else some s1.1)) else some s1.1)) fun t28 => some (.inl (t28, s1.2 + (1 : Int32))))) else some (.inr s1.1))) FU ((-1 : Int32), (0 : Int32))) fun e6 => (Option.bind (α := Int32) ((if e6 < 0 then (if a2 = 0 then some (50 : Int32) else some (0 : Int32)) else (Option.bind (ix 120 e6) fun i26 => some (σ.1 0 21 i26)))) fun t9 => (Option.bind (itr0 (S := Int32 × Int32) (E := Int32) (fun s12 => (if s12.2 < σ.1 0 0 30 then (if e6 < 0 then some (.inr s12.1) else (Option.bind (ix 61 s12.2) fun i20 => (Option.bind (α := Int32) ((if σ.1 0 23 i20 = e6 then (Option.bind (ix 61 s12.2) fun i24 => (if a3 < σ.1 0 25 i24 then some s12.1 else (Option.bind (ix 61 s12.2) fun i25 => some (σ.1 0 24 i25)))) else some s12.1)) fun t21 => some (.inl (t21, s12.2 + (1 : Int32)))))) else some (.inr s12.1))) FU (t9, (0 : Int32))) fun e17 => some e17)))
set_option maxRecDepth 20000 in
set_option maxHeartbeats 4000000 in
theorem w_m_knownOf (Θ : TT) (σ : St) (a1 : Int32) (a2 : Int32) (a3 : Int32) (C : CX Θ cX12_knownOf RX12 (some .int) ({ frames := 0, cells := 0, slots := 0, locals := 0 } : Room) 7) : WA LM Θ (fun r : Int32 => Qm LM Θ (some (.int r)) σ (True)) 0 [some (.ref (cF Θ 0)), some (.int a1), some (.int a2), some (.int a3), none, none, none] [] σ (m_knownOf σ a1 a2 a3) := by
  unfold m_knownOf
  refine r_iconst C (-1 : Int32) dX12_knownOf_0 (by decide) ?_
  refine r_istore C [some (.ref (cF Θ 0)), some (.int a1), some (.int a2), some (.int a3), some (.int (-1 : Int32)), none, none] dX12_knownOf_1 rfl (by decide) rfl ?_
  refine r_iconst C (0 : Int32) dX12_knownOf_3 (by decide) ?_
  refine r_istore C [some (.ref (cF Θ 0)), some (.int a1), some (.int a2), some (.int a3), some (.int (-1 : Int32)), some (.int (0 : Int32)), none] dX12_knownOf_4 rfl (by decide) rfl ?_
  refine WA.join (α := Int32) 63 (fun e6 => [some (.ref (cF Θ 0)), none, some (.int a2), some (.int a3), some (.int e6), none, none]) (fun e6 => []) (fun e6 => σ) (fun e6 => True) (fun e6 h7 => ?_) (fun J8 => ?_)
  · refine r_iload C dX12_knownOf_63 rfl ?_
    refine WA.join (α := Int32) 88 (fun t9 => [some (.ref (cF Θ 0)), none, none, some (.int a3), some (.int e6), none, none]) (fun t9 => [.int t9]) (fun t9 => σ) (fun t9 => True) (fun t9 h10 => ?_) (fun J11 => ?_)
    · refine r_istore C [some (.ref (cF Θ 0)), none, none, some (.int a3), some (.int e6), some (.int t9), none] dX12_knownOf_88 rfl (by decide) rfl ?_
      refine r_iconst C (0 : Int32) dX12_knownOf_90 (by decide) ?_
      refine r_istore C [some (.ref (cF Θ 0)), none, none, some (.int a3), some (.int e6), some (.int t9), some (.int (0 : Int32))] dX12_knownOf_91 rfl (by decide) rfl ?_
      refine WA.join (α := Int32) 150 (fun e17 => [none, none, none, none, none, some (.int e17), none]) (fun e17 => []) (fun e17 => σ) (fun e17 => True) (fun e17 h18 => ?_) (fun J19 => ?_)
      · refine r_iload C dX12_knownOf_150 rfl ?_
        exact r_iret C dX12_knownOf_152 rfl rfl trivial
      · refine WA.wk (lv' := [some (.ref (cF Θ 0)), none, none, some (.int a3), some (.int e6), some (.int t9), some (.int (0 : Int32))]) [true, false, false, true, true, true, true] rfl ?_
        refine WA.itr (S := Int32 × Int32) 93 (fun s12 => [some (.ref (cF Θ 0)), none, none, some (.int a3), some (.int e6), some (.int s12.1), some (.int s12.2)]) (fun s12 => []) (fun s12 => σ) (fun s12 => True) (fun s12 k16 h13 ih14 hx15 => ?_) FU (t9, (0 : Int32)) trivial
        refine r_iload C dX12_knownOf_93 rfl ?_
        refine r_aload_n C dX12_knownOf_95 rfl ?_
        refine r_getI0 C dX12_knownOf_96 fg_X12_206 (by decide) ?_
        refine WA.bif ?_
        refine r_icmp_ge C 150 dX12_knownOf_99 (by decide) ?_ ?_
        · refine WA.wk (lv' := [none, none, none, none, none, some (.int s12.1), none]) [false, false, false, false, false, true, false] rfl ?_
          exact WA.eqK (hx15 _) (J19 s12.1 trivial)
        · refine r_iload C dX12_knownOf_102 rfl ?_
          refine WA.bif ?_
          refine r_if_lt C 150 dX12_knownOf_104 (by decide) ?_ ?_
          · refine WA.wk (lv' := [none, none, none, none, none, some (.int s12.1), none]) [false, false, false, false, false, true, false] rfl ?_
            exact WA.eqK (hx15 _) (J19 s12.1 trivial)
          · refine r_aload_n C dX12_knownOf_107 rfl ?_
            refine r_getF0 C dX12_knownOf_108 fg_X12_83 (by decide) ?_
            refine r_iload C dX12_knownOf_111 rfl ?_
            refine WA.asc ?_
            refine r_iald (α := Unit) C dX12_knownOf_113 ag_LM_23 (fun i20 => ?_)
            refine r_iload C dX12_knownOf_114 rfl ?_
            refine WA.asc ?_
            refine WA.join (α := Int32) 142 (fun t21 => [some (.ref (cF Θ 0)), none, none, some (.int a3), some (.int e6), none, some (.int s12.2)]) (fun t21 => [.int t21]) (fun t21 => σ) (fun t21 => True) (fun t21 h22 => ?_) (fun J23 => ?_)
            · refine r_istore C [some (.ref (cF Θ 0)), none, none, some (.int a3), some (.int e6), some (.int t21), some (.int s12.2)] dX12_knownOf_142 rfl (by decide) rfl ?_
              refine r_iinc C (1 : Int32) [some (.ref (cF Θ 0)), none, none, some (.int a3), some (.int e6), some (.int t21), some (.int (s12.2 + (1 : Int32)))] dX12_knownOf_144 (by decide) rfl rfl (by decide) rfl ?_
              refine r_goto C 93 dX12_knownOf_147 (by decide) ?_
              refine WA.wk (lv' := [some (.ref (cF Θ 0)), none, none, some (.int a3), some (.int e6), some (.int t21), some (.int (s12.2 + (1 : Int32)))]) [true, false, false, true, true, true, true] rfl ?_
              exact ih14 (t21, s12.2 + (1 : Int32)) trivial
            · refine WA.bif ?_
              refine r_icmp_ne C 140 dX12_knownOf_116 (by decide) ?_ ?_
              · refine r_iload C dX12_knownOf_140 rfl ?_
                refine WA.wk (lv' := [some (.ref (cF Θ 0)), none, none, some (.int a3), some (.int e6), none, some (.int s12.2)]) [true, false, false, true, true, false, true] rfl ?_
                exact J23 s12.1 trivial
              · refine r_aload_n C dX12_knownOf_119 rfl ?_
                refine r_getF0 C dX12_knownOf_120 fg_X12_89 (by decide) ?_
                refine r_iload C dX12_knownOf_123 rfl ?_
                refine WA.asc ?_
                refine r_iald (α := Unit) C dX12_knownOf_125 ag_LM_25 (fun i24 => ?_)
                refine r_iload_n C dX12_knownOf_126 rfl ?_
                refine WA.bif ?_
                refine r_icmp_gt C 140 dX12_knownOf_127 (by decide) ?_ ?_
                · refine r_iload C dX12_knownOf_140 rfl ?_
                  refine WA.wk (lv' := [some (.ref (cF Θ 0)), none, none, some (.int a3), some (.int e6), none, some (.int s12.2)]) [true, false, false, true, true, false, true] rfl ?_
                  exact J23 s12.1 trivial
                · refine r_aload_n C dX12_knownOf_130 rfl ?_
                  refine r_getF0 C dX12_knownOf_131 fg_X12_86 (by decide) ?_
                  refine r_iload C dX12_knownOf_134 rfl ?_
                  refine WA.asc ?_
                  refine r_iald (α := Unit) C dX12_knownOf_136 ag_LM_24 (fun i25 => ?_)
                  refine r_goto C 142 dX12_knownOf_137 (by decide) ?_
                  refine WA.wk (lv' := [some (.ref (cF Θ 0)), none, none, some (.int a3), some (.int e6), none, some (.int s12.2)]) [true, false, false, true, true, false, true] rfl ?_
                  exact J23 (σ.1 0 24 i25) trivial
    · refine WA.bif ?_
      refine r_if_lt C 78 dX12_knownOf_65 (by decide) ?_ ?_
      · refine r_iload_n C dX12_knownOf_78 rfl ?_
        refine WA.bif ?_
        refine r_if_ne C 87 dX12_knownOf_79 (by decide) ?_ ?_
        · refine r_iconst C (0 : Int32) dX12_knownOf_87 (by decide) ?_
          refine WA.wk (lv' := [some (.ref (cF Θ 0)), none, none, some (.int a3), some (.int e6), none, none]) [true, false, false, true, true, false, false] rfl ?_
          exact J11 (0 : Int32) trivial
        · refine r_bipush C (50 : Int32) dX12_knownOf_82 (by decide) ?_
          refine r_goto C 88 dX12_knownOf_84 (by decide) ?_
          refine WA.wk (lv' := [some (.ref (cF Θ 0)), none, none, some (.int a3), some (.int e6), none, none]) [true, false, false, true, true, false, false] rfl ?_
          exact J11 (50 : Int32) trivial
      · refine r_aload_n C dX12_knownOf_68 rfl ?_
        refine r_getF0 C dX12_knownOf_69 fg_X12_77 (by decide) ?_
        refine r_iload C dX12_knownOf_72 rfl ?_
        refine WA.asc ?_
        refine r_iald (α := Unit) C dX12_knownOf_74 ag_LM_21 (fun i26 => ?_)
        refine r_goto C 88 dX12_knownOf_75 (by decide) ?_
        refine WA.wk (lv' := [some (.ref (cF Θ 0)), none, none, some (.int a3), some (.int e6), none, none]) [true, false, false, true, true, false, false] rfl ?_
        exact J11 (σ.1 0 21 i26) trivial
  · refine WA.wk (lv' := [some (.ref (cF Θ 0)), some (.int a1), some (.int a2), some (.int a3), some (.int (-1 : Int32)), some (.int (0 : Int32)), none]) [true, true, true, true, true, true, false] rfl ?_
    refine WA.itr (S := Int32 × Int32) 6 (fun s1 => [some (.ref (cF Θ 0)), some (.int a1), some (.int a2), some (.int a3), some (.int s1.1), some (.int s1.2), none]) (fun s1 => []) (fun s1 => σ) (fun s1 => True) (fun s1 k5 h2 ih3 hx4 => ?_) FU ((-1 : Int32), (0 : Int32)) trivial
    refine r_iload C dX12_knownOf_6 rfl ?_
    refine r_aload_n C dX12_knownOf_8 rfl ?_
    refine r_getI0 C dX12_knownOf_9 fg_X12_203 (by decide) ?_
    refine WA.bif ?_
    refine r_icmp_ge C 63 dX12_knownOf_12 (by decide) ?_ ?_
    · refine WA.wk (lv' := [some (.ref (cF Θ 0)), none, some (.int a2), some (.int a3), some (.int s1.1), none, none]) [true, false, true, true, true, false, false] rfl ?_
      exact WA.eqK (hx4 _) (J8 s1.1 trivial)
    · refine r_aload_n C dX12_knownOf_15 rfl ?_
      refine r_getF0 C dX12_knownOf_16 fg_X12_71 (by decide) ?_
      refine r_iload C dX12_knownOf_19 rfl ?_
      refine WA.asc ?_
      refine r_iald (α := Unit) C dX12_knownOf_21 ag_LM_19 (fun i27 => ?_)
      refine r_iload_n C dX12_knownOf_22 rfl ?_
      refine WA.asc ?_
      refine WA.join (α := Int32) 55 (fun t28 => [some (.ref (cF Θ 0)), some (.int a1), some (.int a2), some (.int a3), none, some (.int s1.2), none]) (fun t28 => [.int t28]) (fun t28 => σ) (fun t28 => True) (fun t28 h29 => ?_) (fun J30 => ?_)
      · refine r_istore C [some (.ref (cF Θ 0)), some (.int a1), some (.int a2), some (.int a3), some (.int t28), some (.int s1.2), none] dX12_knownOf_55 rfl (by decide) rfl ?_
        refine r_iinc C (1 : Int32) [some (.ref (cF Θ 0)), some (.int a1), some (.int a2), some (.int a3), some (.int t28), some (.int (s1.2 + (1 : Int32))), none] dX12_knownOf_57 (by decide) rfl rfl (by decide) rfl ?_
        refine r_goto C 6 dX12_knownOf_60 (by decide) ?_
        refine WA.wk (lv' := [some (.ref (cF Θ 0)), some (.int a1), some (.int a2), some (.int a3), some (.int t28), some (.int (s1.2 + (1 : Int32))), none]) [true, true, true, true, true, true, false] rfl ?_
        exact ih3 (t28, s1.2 + (1 : Int32)) trivial
      · refine WA.bif ?_
        refine r_icmp_ne C 53 dX12_knownOf_23 (by decide) ?_ ?_
        · refine r_iload C dX12_knownOf_53 rfl ?_
          refine WA.wk (lv' := [some (.ref (cF Θ 0)), some (.int a1), some (.int a2), some (.int a3), none, some (.int s1.2), none]) [true, true, true, true, false, true, false] rfl ?_
          exact J30 s1.1 trivial
        · refine r_aload_n C dX12_knownOf_26 rfl ?_
          refine r_getF0 C dX12_knownOf_27 fg_X12_74 (by decide) ?_
          refine r_iload C dX12_knownOf_30 rfl ?_
          refine WA.asc ?_
          refine r_iald (α := Unit) C dX12_knownOf_32 ag_LM_20 (fun i31 => ?_)
          refine r_iload_n C dX12_knownOf_33 rfl ?_
          refine WA.bif ?_
          refine r_icmp_ne C 53 dX12_knownOf_34 (by decide) ?_ ?_
          · refine r_iload C dX12_knownOf_53 rfl ?_
            refine WA.wk (lv' := [some (.ref (cF Θ 0)), some (.int a1), some (.int a2), some (.int a3), none, some (.int s1.2), none]) [true, true, true, true, false, true, false] rfl ?_
            exact J30 s1.1 trivial
          · refine r_aload_n C dX12_knownOf_37 rfl ?_
            refine r_getF0 C dX12_knownOf_38 fg_X12_80 (by decide) ?_
            refine r_iload C dX12_knownOf_41 rfl ?_
            refine WA.asc ?_
            refine r_iald (α := Unit) C dX12_knownOf_43 ag_LM_22 (fun i32 => ?_)
            refine r_iload_n C dX12_knownOf_44 rfl ?_
            refine WA.bif ?_
            refine r_icmp_gt C 53 dX12_knownOf_45 (by decide) ?_ ?_
            · refine r_iload C dX12_knownOf_53 rfl ?_
              refine WA.wk (lv' := [some (.ref (cF Θ 0)), some (.int a1), some (.int a2), some (.int a3), none, some (.int s1.2), none]) [true, true, true, true, false, true, false] rfl ?_
              exact J30 s1.1 trivial
            · refine r_iload C dX12_knownOf_48 rfl ?_
              refine r_goto C 55 dX12_knownOf_50 (by decide) ?_
              refine WA.wk (lv' := [some (.ref (cF Θ 0)), some (.int a1), some (.int a2), some (.int a3), none, some (.int s1.2), none]) [true, true, true, true, false, true, false] rfl ?_
              exact J30 s1.2 trivial
theorem c_m_knownOf (l : Launch) (ω : Wd) (ad : Nat → Nat → Nat) (N : Nat → Nat) (σ : St) (a1 : Int32) (a2 : Int32) (a3 : Int32) : ∀ r : Int32, m_knownOf σ a1 a2 a3 = some r → Ct l yX12_knownOf cX12_knownOf 7 (some .int) ({ frames := 0, cells := 0, slots := 0, locals := 0 } : Room) LM ω ad N [.ref (ω.2.1 0), .int a1, .int a2, .int a3] σ (some (.int r)) σ (True) :=
  ct_of (o := fun r : Int32 => (some (.int r))) (s' := fun r => σ) (P := fun r => True) [some (.ref (ω.2.1 0)), some (.int a1), some (.int a2), some (.int a3), none, none, none] (by decide) rfl (Nat.le_of_ble_eq_true rfl) (fun Γ C _ _ => w_m_knownOf (Γ, ω, 7, ad, N, 0, 0) σ a1 a2 a3 C)
theorem sw_X12_ones : SW yX12_ones cX12_ones 3 (some .int) 1 := ⟨⟨(in_wt 88 (by decide +kernel) (by decide +kernel)), (in_wt 1552 (by decide +kernel) (by decide +kernel)), by decide +kernel⟩, (in_wt 1551 (by decide +kernel) (by decide +kernel))⟩
theorem ml_X12_216 : Cond.methodLink RX12 216 yX12_ones ∈ wt := in_wt 1550 (by decide +kernel) (by decide +kernel)
/-- PostsEndModel.private int skillFor(int, int) -/
def m_skillFor (σ : St) (a1 : Int32) (a2 : Int32) : Option Int32 := (if a2 < 0 then some (0 : Int32) else (Option.bind (ix 40 a2) fun i1 => (if σ.1 0 7 i1 = 0 then some (100 : Int32) else (Option.bind (ix 40 a1) fun i2 => (Option.bind (ix 40 a2) fun i3 => (Option.bind (m_ones ((σ.1 0 9 i2) &&& (σ.1 0 7 i3))) fun r4 => (Option.bind (ix 40 a2) fun i6 => (Option.bind (m_ones (σ.1 0 7 i6)) fun r7 => (if r7 = 0 then none else some (((100 : Int32) * r4) / r7))))))))))
set_option maxRecDepth 20000 in
set_option maxHeartbeats 4000000 in
theorem w_m_skillFor (Θ : TT) (σ : St) (a1 : Int32) (a2 : Int32) (C : CX Θ cX12_skillFor RX12 (some .int) ({ frames := 1, cells := 0, slots := 0, locals := 22 } : Room) 3) : WA LM Θ (fun r : Int32 => Qm LM Θ (some (.int r)) σ (True)) 0 [some (.ref (cF Θ 0)), some (.int a1), some (.int a2)] [] σ (m_skillFor σ a1 a2) := by
  unfold m_skillFor
  refine r_iload_n C dX12_skillFor_0 rfl ?_
  refine r_if_ge C 8 dX12_skillFor_1 (by decide) ?_ ?_
  · refine r_aload_n C dX12_skillFor_8 rfl ?_
    refine r_getF0 C dX12_skillFor_9 fg_X12_28 (by decide) ?_
    refine r_iload_n C dX12_skillFor_12 rfl ?_
    refine r_iald (α := Unit) C dX12_skillFor_13 ag_LM_7 (fun i1 => ?_)
    refine r_if_ne C 22 dX12_skillFor_14 (by decide) ?_ ?_
    · refine r_bipush C (100 : Int32) dX12_skillFor_22 (by decide) ?_
      refine r_aload_n C dX12_skillFor_24 rfl ?_
      refine r_getF0 C dX12_skillFor_25 fg_X12_34 (by decide) ?_
      refine r_iload_n C dX12_skillFor_28 rfl ?_
      refine r_iald (α := Unit) C dX12_skillFor_29 ag_LM_9 (fun i2 => ?_)
      refine r_aload_n C dX12_skillFor_30 rfl ?_
      refine r_getF0 C dX12_skillFor_31 fg_X12_28 (by decide) ?_
      refine r_iload_n C dX12_skillFor_34 rfl ?_
      refine r_iald (α := Unit) C dX12_skillFor_35 ag_LM_7 (fun i3 => ?_)
      refine r_iand C dX12_skillFor_36 ?_
      refine r_callS C (st := [.int (100 : Int32)]) (As := [.int ((σ.1 0 9 i2) &&& (σ.1 0 7 i3))]) dX12_skillFor_37 ml_X12_216 sw_X12_ones (fun r4 e => c_m_ones Θ.1.2.1 (cW Θ) (cAd Θ) (cN Θ) σ ((σ.1 0 9 i2) &&& (σ.1 0 7 i3)) r4 e) rfl rfl (Nat.le_of_ble_eq_true rfl) ⟨rfl, rfl, by decide, by decide⟩ (fun r4 h5 => ?_)
      refine r_imul C dX12_skillFor_40 ?_
      refine r_aload_n C dX12_skillFor_41 rfl ?_
      refine r_getF0 C dX12_skillFor_42 fg_X12_28 (by decide) ?_
      refine r_iload_n C dX12_skillFor_45 rfl ?_
      refine r_iald (α := Unit) C dX12_skillFor_46 ag_LM_7 (fun i6 => ?_)
      refine r_callS C (st := [.int ((100 : Int32) * r4)]) (As := [.int (σ.1 0 7 i6)]) dX12_skillFor_47 ml_X12_216 sw_X12_ones (fun r7 e => c_m_ones Θ.1.2.1 (cW Θ) (cAd Θ) (cN Θ) σ (σ.1 0 7 i6) r7 e) rfl rfl (Nat.le_of_ble_eq_true rfl) ⟨rfl, rfl, by decide, by decide⟩ (fun r7 h8 => ?_)
      refine r_idiv C dX12_skillFor_50 ?_
      exact r_iret C dX12_skillFor_51 rfl rfl trivial
    · refine r_bipush C (100 : Int32) dX12_skillFor_17 (by decide) ?_
      refine r_goto C 51 dX12_skillFor_19 (by decide) ?_
      exact r_iret C dX12_skillFor_51 rfl rfl trivial
  · refine r_iconst C (0 : Int32) dX12_skillFor_4 (by decide) ?_
    refine r_goto C 51 dX12_skillFor_5 (by decide) ?_
    exact r_iret C dX12_skillFor_51 rfl rfl trivial
theorem c_m_skillFor (l : Launch) (ω : Wd) (ad : Nat → Nat → Nat) (N : Nat → Nat) (σ : St) (a1 : Int32) (a2 : Int32) : ∀ r : Int32, m_skillFor σ a1 a2 = some r → Ct l yX12_skillFor cX12_skillFor 3 (some .int) ({ frames := 1, cells := 0, slots := 0, locals := 22 } : Room) LM ω ad N [.ref (ω.2.1 0), .int a1, .int a2] σ (some (.int r)) σ (True) :=
  ct_of (o := fun r : Int32 => (some (.int r))) (s' := fun r => σ) (P := fun r => True) [some (.ref (ω.2.1 0)), some (.int a1), some (.int a2)] (by decide) rfl (Nat.le_of_ble_eq_true rfl) (fun Γ C _ _ => w_m_skillFor (Γ, ω, 3, ad, N, 0, 0) σ a1 a2 C)
/-- PostsEndModel.private int wholeYears(int) -/
def m_wholeYears (σ : St) (a1 : Int32) : Option Int32 := (Option.bind (ix 40 a1) fun i1 => some (((σ.1 0 0 0) - (σ.1 0 10 i1)) / (365 : Int32)))
set_option maxRecDepth 20000 in
set_option maxHeartbeats 4000000 in
theorem w_m_wholeYears (Θ : TT) (σ : St) (a1 : Int32) (C : CX Θ cX12_wholeYears RX12 (some .int) ({ frames := 0, cells := 0, slots := 0, locals := 0 } : Room) 2) : WA LM Θ (fun r : Int32 => Qm LM Θ (some (.int r)) σ (True)) 0 [some (.ref (cF Θ 0)), some (.int a1)] [] σ (m_wholeYears σ a1) := by
  unfold m_wholeYears
  refine r_aload_n C dX12_wholeYears_0 rfl ?_
  refine r_getI0 C dX12_wholeYears_1 fg_X12_167 (by decide) ?_
  refine r_aload_n C dX12_wholeYears_4 rfl ?_
  refine r_getF0 C dX12_wholeYears_5 fg_X12_37 (by decide) ?_
  refine r_iload_n C dX12_wholeYears_8 rfl ?_
  refine r_iald (α := Unit) C dX12_wholeYears_9 ag_LM_10 (fun i1 => ?_)
  refine r_isub C dX12_wholeYears_10 ?_
  refine r_sipush C (365 : Int32) dX12_wholeYears_11 (by decide) ?_
  refine r_idivc C dX12_wholeYears_14 (by decide) ?_
  exact r_iret C dX12_wholeYears_15 rfl rfl trivial
theorem c_m_wholeYears (l : Launch) (ω : Wd) (ad : Nat → Nat → Nat) (N : Nat → Nat) (σ : St) (a1 : Int32) : ∀ r : Int32, m_wholeYears σ a1 = some r → Ct l yX12_wholeYears cX12_wholeYears 2 (some .int) ({ frames := 0, cells := 0, slots := 0, locals := 0 } : Room) LM ω ad N [.ref (ω.2.1 0), .int a1] σ (some (.int r)) σ (True) :=
  ct_of (o := fun r : Int32 => (some (.int r))) (s' := fun r => σ) (P := fun r => True) [some (.ref (ω.2.1 0)), some (.int a1)] (by decide) rfl (Nat.le_of_ble_eq_true rfl) (fun Γ C _ _ => w_m_wholeYears (Γ, ω, 2, ad, N, 0, 0) σ a1 C)
theorem vw_X12_knownOf : VW yX12_knownOf cX12_knownOf 7 (some .int) 3 := ⟨⟨(in_wt 88 (by decide +kernel) (by decide +kernel)), (in_wt 1545 (by decide +kernel) (by decide +kernel)), by decide +kernel⟩, (in_wt 1544 (by decide +kernel) (by decide +kernel)), (in_wt 53 (by decide +kernel) (by decide +kernel))⟩
theorem vw_X12_skillFor : VW yX12_skillFor cX12_skillFor 3 (some .int) 2 := ⟨⟨(in_wt 88 (by decide +kernel) (by decide +kernel)), (in_wt 1549 (by decide +kernel) (by decide +kernel)), by decide +kernel⟩, (in_wt 1548 (by decide +kernel) (by decide +kernel)), (in_wt 54 (by decide +kernel) (by decide +kernel))⟩
theorem vw_X12_wholeYears : VW yX12_wholeYears cX12_wholeYears 2 (some .int) 1 := ⟨⟨(in_wt 88 (by decide +kernel) (by decide +kernel)), (in_wt 1556 (by decide +kernel) (by decide +kernel)), by decide +kernel⟩, (in_wt 1555 (by decide +kernel) (by decide +kernel)), (in_wt 55 (by decide +kernel) (by decide +kernel))⟩
theorem ml_X12_219 : Cond.methodLink RX12 219 yX12_knownOf ∈ wt := in_wt 1542 (by decide +kernel) (by decide +kernel)
theorem ml_X12_223 : Cond.methodLink RX12 223 yX12_skillFor ∈ wt := in_wt 1546 (by decide +kernel) (by decide +kernel)
theorem ml_X12_227 : Cond.methodLink RX12 227 yX12_wholeYears ∈ wt := in_wt 1553 (by decide +kernel) (by decide +kernel)
/-- PostsEndModel.private int partOf(int, int, int) -/
def m_partOf (σ : St) (a1 : Int32) (a2 : Int32) (a3 : Int32) : Option Int32 := (if a2 = 0 then (Option.bind (m_knownOf σ a1 (0 : Int32) a3) fun r10 => some r10) else (if a2 = (1 : Int32) then (Option.bind (ix 40 a1) fun i7 => (Option.bind (m_skillFor σ a1 (σ.1 0 12 i7)) fun r8 => some r8)) else (if a2 = (2 : Int32) then (Option.bind (m_knownOf σ a1 (1 : Int32) a3) fun r5 => (if (100 : Int32) - ((20 : Int32) * r5) < 0 then some (0 : Int32) else some ((100 : Int32) - ((20 : Int32) * r5)))) else (Option.bind (m_wholeYears σ a1) fun r1 => (if (20 : Int32) < r1 then some (100 : Int32) else (Option.bind (m_wholeYears σ a1) fun r3 => some ((5 : Int32) * r3)))))))
set_option maxRecDepth 20000 in
set_option maxHeartbeats 4000000 in
theorem w_m_partOf (Θ : TT) (σ : St) (a1 : Int32) (a2 : Int32) (a3 : Int32) (C : CX Θ cX12_partOf RX12 (some .int) ({ frames := 2, cells := 0, slots := 0, locals := 44 } : Room) 5) : WA LM Θ (fun r : Int32 => Qm LM Θ (some (.int r)) σ (True)) 0 [some (.ref (cF Θ 0)), some (.int a1), some (.int a2), some (.int a3), none] [] σ (m_partOf σ a1 a2 a3) := by
  unfold m_partOf
  refine r_iload_n C dX12_partOf_0 rfl ?_
  refine r_if_ne C 12 dX12_partOf_1 (by decide) ?_ ?_
  · refine r_iload_n C dX12_partOf_12 rfl ?_
    refine r_iconst C (1 : Int32) dX12_partOf_13 (by decide) ?_
    refine r_icmp_ne C 29 dX12_partOf_14 (by decide) ?_ ?_
    · refine r_iload_n C dX12_partOf_29 rfl ?_
      refine r_iconst C (2 : Int32) dX12_partOf_30 (by decide) ?_
      refine r_icmp_ne C 61 dX12_partOf_31 (by decide) ?_ ?_
      · refine r_aload_n C dX12_partOf_61 rfl ?_
        refine r_iload_n C dX12_partOf_62 rfl ?_
        refine r_callV C (st := []) (As := [.int a1]) (d := 0) (j := 0) dX12_partOf_63 ml_X12_227 vw_X12_wholeYears ⟨_, _, _, _, rfl, rfl⟩ (dm0 (by decide)) (fun r1 e => c_m_wholeYears Θ.1.2.1 (cW Θ) (cAd Θ) (cN Θ) σ a1 r1 e) rfl rfl (Nat.le_of_ble_eq_true rfl) ⟨rfl, rfl, by decide, by decide⟩ (fun r1 h2 => ?_)
        refine r_bipush C (20 : Int32) dX12_partOf_66 (by decide) ?_
        refine r_icmp_le C 76 dX12_partOf_68 (by decide) ?_ ?_
        · refine r_iconst C (5 : Int32) dX12_partOf_76 (by decide) ?_
          refine r_aload_n C dX12_partOf_77 rfl ?_
          refine r_iload_n C dX12_partOf_78 rfl ?_
          refine r_callV C (st := [.int (5 : Int32)]) (As := [.int a1]) (d := 0) (j := 0) dX12_partOf_79 ml_X12_227 vw_X12_wholeYears ⟨_, _, _, _, rfl, rfl⟩ (dm0 (by decide)) (fun r3 e => c_m_wholeYears Θ.1.2.1 (cW Θ) (cAd Θ) (cN Θ) σ a1 r3 e) rfl rfl (Nat.le_of_ble_eq_true rfl) ⟨rfl, rfl, by decide, by decide⟩ (fun r3 h4 => ?_)
          refine r_imul C dX12_partOf_82 ?_
          exact r_iret C dX12_partOf_83 rfl rfl trivial
        · refine r_bipush C (100 : Int32) dX12_partOf_71 (by decide) ?_
          refine r_goto C 83 dX12_partOf_73 (by decide) ?_
          exact r_iret C dX12_partOf_83 rfl rfl trivial
      · refine r_bipush C (100 : Int32) dX12_partOf_34 (by decide) ?_
        refine r_bipush C (20 : Int32) dX12_partOf_36 (by decide) ?_
        refine r_aload_n C dX12_partOf_38 rfl ?_
        refine r_iload_n C dX12_partOf_39 rfl ?_
        refine r_iconst C (1 : Int32) dX12_partOf_40 (by decide) ?_
        refine r_iload_n C dX12_partOf_41 rfl ?_
        refine r_callV C (st := [.int (20 : Int32), .int (100 : Int32)]) (As := [.int a1, .int (1 : Int32), .int a3]) (d := 0) (j := 0) dX12_partOf_42 ml_X12_219 vw_X12_knownOf ⟨_, _, _, _, rfl, rfl⟩ (dm0 (by decide)) (fun r5 e => c_m_knownOf Θ.1.2.1 (cW Θ) (cAd Θ) (cN Θ) σ a1 (1 : Int32) a3 r5 e) rfl rfl (Nat.le_of_ble_eq_true rfl) ⟨rfl, rfl, by decide, by decide⟩ (fun r5 h6 => ?_)
        refine r_imul C dX12_partOf_45 ?_
        refine r_isub C dX12_partOf_46 ?_
        refine r_istore C [some (.ref (cF Θ 0)), some (.int a1), some (.int a2), some (.int a3), some (.int ((100 : Int32) - ((20 : Int32) * r5)))] dX12_partOf_47 rfl (by decide) rfl ?_
        refine r_iload C dX12_partOf_49 rfl ?_
        refine r_if_ge C 58 dX12_partOf_51 (by decide) ?_ ?_
        · refine r_iload C dX12_partOf_58 rfl ?_
          exact r_iret C dX12_partOf_60 rfl rfl trivial
        · refine r_iconst C (0 : Int32) dX12_partOf_54 (by decide) ?_
          refine r_goto C 60 dX12_partOf_55 (by decide) ?_
          exact r_iret C dX12_partOf_60 rfl rfl trivial
    · refine r_aload_n C dX12_partOf_17 rfl ?_
      refine r_iload_n C dX12_partOf_18 rfl ?_
      refine r_aload_n C dX12_partOf_19 rfl ?_
      refine r_getF0 C dX12_partOf_20 fg_X12_43 (by decide) ?_
      refine r_iload_n C dX12_partOf_23 rfl ?_
      refine r_iald (α := Unit) C dX12_partOf_24 ag_LM_12 (fun i7 => ?_)
      refine r_callV C (st := []) (As := [.int a1, .int (σ.1 0 12 i7)]) (d := 0) (j := 0) dX12_partOf_25 ml_X12_223 vw_X12_skillFor ⟨_, _, _, _, rfl, rfl⟩ (dm0 (by decide)) (fun r8 e => c_m_skillFor Θ.1.2.1 (cW Θ) (cAd Θ) (cN Θ) σ a1 (σ.1 0 12 i7) r8 e) rfl rfl (Nat.le_of_ble_eq_true rfl) ⟨rfl, rfl, by decide, by decide⟩ (fun r8 h9 => ?_)
      exact r_iret C dX12_partOf_28 rfl rfl trivial
  · refine r_aload_n C dX12_partOf_4 rfl ?_
    refine r_iload_n C dX12_partOf_5 rfl ?_
    refine r_iconst C (0 : Int32) dX12_partOf_6 (by decide) ?_
    refine r_iload_n C dX12_partOf_7 rfl ?_
    refine r_callV C (st := []) (As := [.int a1, .int (0 : Int32), .int a3]) (d := 0) (j := 0) dX12_partOf_8 ml_X12_219 vw_X12_knownOf ⟨_, _, _, _, rfl, rfl⟩ (dm0 (by decide)) (fun r10 e => c_m_knownOf Θ.1.2.1 (cW Θ) (cAd Θ) (cN Θ) σ a1 (0 : Int32) a3 r10 e) rfl rfl (Nat.le_of_ble_eq_true rfl) ⟨rfl, rfl, by decide, by decide⟩ (fun r10 h11 => ?_)
    exact r_iret C dX12_partOf_11 rfl rfl trivial
theorem c_m_partOf (l : Launch) (ω : Wd) (ad : Nat → Nat → Nat) (N : Nat → Nat) (σ : St) (a1 : Int32) (a2 : Int32) (a3 : Int32) : ∀ r : Int32, m_partOf σ a1 a2 a3 = some r → Ct l yX12_partOf cX12_partOf 5 (some .int) ({ frames := 2, cells := 0, slots := 0, locals := 44 } : Room) LM ω ad N [.ref (ω.2.1 0), .int a1, .int a2, .int a3] σ (some (.int r)) σ (True) :=
  ct_of (o := fun r : Int32 => (some (.int r))) (s' := fun r => σ) (P := fun r => True) [some (.ref (ω.2.1 0)), some (.int a1), some (.int a2), some (.int a3), none] (by decide) rfl (Nat.le_of_ble_eq_true rfl) (fun Γ C _ _ => w_m_partOf (Γ, ω, 5, ad, N, 0, 0) σ a1 a2 a3 C)
theorem vw_X12_partOf : VW yX12_partOf cX12_partOf 5 (some .int) 3 := ⟨⟨(in_wt 88 (by decide +kernel) (by decide +kernel)), (in_wt 1541 (by decide +kernel) (by decide +kernel)), by decide +kernel⟩, (in_wt 1540 (by decide +kernel) (by decide +kernel)), (in_wt 52 (by decide +kernel) (by decide +kernel))⟩
theorem ml_X12_230 : Cond.methodLink RX12 230 yX12_partOf ∈ wt := in_wt 1538 (by decide +kernel) (by decide +kernel)
/-- PostsEndModel.private int markOf(int, int) -/
def m_markOf (σ : St) (a1 : Int32) (a2 : Int32) : Option Int32 := (Option.bind (itr0 (S := Int32 × Int32) (E := Int32) (fun s1 => (if s1.2 < (4 : Int32) then (Option.bind (ix 4 s1.2) fun i9 => (Option.bind (m_partOf σ a1 s1.2 a2) fun r10 => some (.inl (s1.1 + ((σ.1 0 17 i9) * r10), s1.2 + (1 : Int32))))) else some (.inr s1.1))) FU ((0 : Int32), (0 : Int32))) fun e6 => some e6)
set_option maxRecDepth 20000 in
set_option maxHeartbeats 4000000 in
theorem w_m_markOf (Θ : TT) (σ : St) (a1 : Int32) (a2 : Int32) (C : CX Θ cX12_markOf RX12 (some .int) ({ frames := 3, cells := 0, slots := 0, locals := 68 } : Room) 5) : WA LM Θ (fun r : Int32 => Qm LM Θ (some (.int r)) σ (True)) 0 [some (.ref (cF Θ 0)), some (.int a1), some (.int a2), none, none] [] σ (m_markOf σ a1 a2) := by
  unfold m_markOf
  refine r_iconst C (0 : Int32) dX12_markOf_0 (by decide) ?_
  refine r_istore_n C [some (.ref (cF Θ 0)), some (.int a1), some (.int a2), some (.int (0 : Int32)), none] dX12_markOf_1 rfl (by decide) rfl ?_
  refine r_iconst C (0 : Int32) dX12_markOf_2 (by decide) ?_
  refine r_istore C [some (.ref (cF Θ 0)), some (.int a1), some (.int a2), some (.int (0 : Int32)), some (.int (0 : Int32))] dX12_markOf_3 rfl (by decide) rfl ?_
  refine WA.join (α := Int32) 36 (fun e6 => [none, none, none, some (.int e6), none]) (fun e6 => []) (fun e6 => σ) (fun e6 => True) (fun e6 h7 => ?_) (fun J8 => ?_)
  · refine r_iload_n C dX12_markOf_36 rfl ?_
    exact r_iret C dX12_markOf_37 rfl rfl trivial
  · refine WA.wk (lv' := [some (.ref (cF Θ 0)), some (.int a1), some (.int a2), some (.int (0 : Int32)), some (.int (0 : Int32))]) [true, true, true, true, true] rfl ?_
    refine WA.itr (S := Int32 × Int32) 5 (fun s1 => [some (.ref (cF Θ 0)), some (.int a1), some (.int a2), some (.int s1.1), some (.int s1.2)]) (fun s1 => []) (fun s1 => σ) (fun s1 => True) (fun s1 k5 h2 ih3 hx4 => ?_) FU ((0 : Int32), (0 : Int32)) trivial
    refine r_iload C dX12_markOf_5 rfl ?_
    refine r_iconst C (4 : Int32) dX12_markOf_7 (by decide) ?_
    refine WA.bif ?_
    refine r_icmp_ge C 36 dX12_markOf_8 (by decide) ?_ ?_
    · refine WA.wk (lv' := [none, none, none, some (.int s1.1), none]) [false, false, false, true, false] rfl ?_
      exact WA.eqK (hx4 _) (J8 s1.1 trivial)
    · refine r_iload_n C dX12_markOf_11 rfl ?_
      refine r_aload_n C dX12_markOf_12 rfl ?_
      refine r_getF0 C dX12_markOf_13 fg_X12_65 (by decide) ?_
      refine r_iload C dX12_markOf_16 rfl ?_
      refine WA.asc ?_
      refine r_iald (α := Unit) C dX12_markOf_18 ag_LM_17 (fun i9 => ?_)
      refine r_aload_n C dX12_markOf_19 rfl ?_
      refine r_iload_n C dX12_markOf_20 rfl ?_
      refine r_iload C dX12_markOf_21 rfl ?_
      refine r_iload_n C dX12_markOf_23 rfl ?_
      refine WA.asc ?_
      refine r_callV C (st := [.int (σ.1 0 17 i9), .int s1.1]) (As := [.int a1, .int s1.2, .int a2]) (d := 0) (j := 0) dX12_markOf_24 ml_X12_230 vw_X12_partOf ⟨_, _, _, _, rfl, rfl⟩ (dm0 (by decide)) (fun r10 e => c_m_partOf Θ.1.2.1 (cW Θ) (cAd Θ) (cN Θ) σ a1 s1.2 a2 r10 e) rfl rfl (Nat.le_of_ble_eq_true rfl) ⟨rfl, rfl, by decide, by decide⟩ (fun r10 h11 => ?_)
      refine r_imul C dX12_markOf_27 ?_
      refine r_iadd C dX12_markOf_28 ?_
      refine r_istore_n C [some (.ref (cF Θ 0)), some (.int a1), some (.int a2), some (.int (s1.1 + ((σ.1 0 17 i9) * r10))), some (.int s1.2)] dX12_markOf_29 rfl (by decide) rfl ?_
      refine r_iinc C (1 : Int32) [some (.ref (cF Θ 0)), some (.int a1), some (.int a2), some (.int (s1.1 + ((σ.1 0 17 i9) * r10))), some (.int (s1.2 + (1 : Int32)))] dX12_markOf_30 (by decide) rfl rfl (by decide) rfl ?_
      refine r_goto C 5 dX12_markOf_33 (by decide) ?_
      refine WA.wk (lv' := [some (.ref (cF Θ 0)), some (.int a1), some (.int a2), some (.int (s1.1 + ((σ.1 0 17 i9) * r10))), some (.int (s1.2 + (1 : Int32)))]) [true, true, true, true, true] rfl ?_
      exact ih3 (s1.1 + ((σ.1 0 17 i9) * r10), s1.2 + (1 : Int32)) trivial
theorem c_m_markOf (l : Launch) (ω : Wd) (ad : Nat → Nat → Nat) (N : Nat → Nat) (σ : St) (a1 : Int32) (a2 : Int32) : ∀ r : Int32, m_markOf σ a1 a2 = some r → Ct l yX12_markOf cX12_markOf 5 (some .int) ({ frames := 3, cells := 0, slots := 0, locals := 68 } : Room) LM ω ad N [.ref (ω.2.1 0), .int a1, .int a2] σ (some (.int r)) σ (True) :=
  ct_of (o := fun r : Int32 => (some (.int r))) (s' := fun r => σ) (P := fun r => True) [some (.ref (ω.2.1 0)), some (.int a1), some (.int a2), none, none] (by decide) rfl (Nat.le_of_ble_eq_true rfl) (fun Γ C _ _ => w_m_markOf (Γ, ω, 5, ad, N, 0, 0) σ a1 a2 C)
