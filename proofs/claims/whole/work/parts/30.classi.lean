/-- PostsEnd.private static int refusalOfParting(int, int, int, int) -/
def p_PE_refusalOfParting (a0 : Int32) (a1 : Int32) (a2 : Int32) (a3 : Int32) : Option Int32 := (if a0 < (1 : Int32) then some (-4 : Int32) else (if a1 < (1 : Int32) then some (-4 : Int32) else (if a2 < (1 : Int32) then some (-4 : Int32) else (if a3 < (1 : Int32) then some (-4 : Int32) else (if (200 : Int32) < a0 then some (-6 : Int32) else (if (6 : Int32) < a1 then some (-6 : Int32) else (if (50 : Int32) < a2 then some (-6 : Int32) else (if (9999 : Int32) < a3 then some (-6 : Int32) else some (0 : Int32)))))))))
set_option maxRecDepth 20000 in
set_option maxHeartbeats 4000000 in
theorem w_p_PE_refusalOfParting (Θ : TT) (σ : St) (a0 : Int32) (a1 : Int32) (a2 : Int32) (a3 : Int32) (C : CX Θ cX11_refusalOfParting RX11 (some .int) ({ frames := 0, cells := 0, slots := 0, locals := 0 } : Room) 4) : WA LC Θ (fun r : Int32 => Qm LC Θ (some (.int r)) σ (True)) 0 [some (.int a0), some (.int a1), some (.int a2), some (.int a3)] [] σ (p_PE_refusalOfParting a0 a1 a2 a3) := by
  unfold p_PE_refusalOfParting
  refine r_iload_n C dX11_refusalOfParting_0 rfl ?_
  refine r_iconst C (1 : Int32) dX11_refusalOfParting_1 (by decide) ?_
  refine r_icmp_lt C 20 dX11_refusalOfParting_2 (by decide) ?_ ?_
  · refine r_bipush C (-4 : Int32) dX11_refusalOfParting_20 (by decide) ?_
    exact r_iret C dX11_refusalOfParting_22 rfl rfl trivial
  · refine r_iload_n C dX11_refusalOfParting_5 rfl ?_
    refine r_iconst C (1 : Int32) dX11_refusalOfParting_6 (by decide) ?_
    refine r_icmp_lt C 20 dX11_refusalOfParting_7 (by decide) ?_ ?_
    · refine r_bipush C (-4 : Int32) dX11_refusalOfParting_20 (by decide) ?_
      exact r_iret C dX11_refusalOfParting_22 rfl rfl trivial
    · refine r_iload_n C dX11_refusalOfParting_10 rfl ?_
      refine r_iconst C (1 : Int32) dX11_refusalOfParting_11 (by decide) ?_
      refine r_icmp_lt C 20 dX11_refusalOfParting_12 (by decide) ?_ ?_
      · refine r_bipush C (-4 : Int32) dX11_refusalOfParting_20 (by decide) ?_
        exact r_iret C dX11_refusalOfParting_22 rfl rfl trivial
      · refine r_iload_n C dX11_refusalOfParting_15 rfl ?_
        refine r_iconst C (1 : Int32) dX11_refusalOfParting_16 (by decide) ?_
        refine r_icmp_ge C 23 dX11_refusalOfParting_17 (by decide) ?_ ?_
        · refine r_iload_n C dX11_refusalOfParting_23 rfl ?_
          refine r_sipush C (200 : Int32) dX11_refusalOfParting_24 (by decide) ?_
          refine r_icmp_gt C 49 dX11_refusalOfParting_27 (by decide) ?_ ?_
          · refine r_bipush C (-6 : Int32) dX11_refusalOfParting_49 (by decide) ?_
            refine r_goto C 55 dX11_refusalOfParting_51 (by decide) ?_
            exact r_iret C dX11_refusalOfParting_55 rfl rfl trivial
          · refine r_iload_n C dX11_refusalOfParting_30 rfl ?_
            refine r_bipush C (6 : Int32) dX11_refusalOfParting_31 (by decide) ?_
            refine r_icmp_gt C 49 dX11_refusalOfParting_33 (by decide) ?_ ?_
            · refine r_bipush C (-6 : Int32) dX11_refusalOfParting_49 (by decide) ?_
              refine r_goto C 55 dX11_refusalOfParting_51 (by decide) ?_
              exact r_iret C dX11_refusalOfParting_55 rfl rfl trivial
            · refine r_iload_n C dX11_refusalOfParting_36 rfl ?_
              refine r_bipush C (50 : Int32) dX11_refusalOfParting_37 (by decide) ?_
              refine r_icmp_gt C 49 dX11_refusalOfParting_39 (by decide) ?_ ?_
              · refine r_bipush C (-6 : Int32) dX11_refusalOfParting_49 (by decide) ?_
                refine r_goto C 55 dX11_refusalOfParting_51 (by decide) ?_
                exact r_iret C dX11_refusalOfParting_55 rfl rfl trivial
              · refine r_iload_n C dX11_refusalOfParting_42 rfl ?_
                refine r_sipush C (9999 : Int32) dX11_refusalOfParting_43 (by decide) ?_
                refine r_icmp_le C 54 dX11_refusalOfParting_46 (by decide) ?_ ?_
                · refine r_iconst C (0 : Int32) dX11_refusalOfParting_54 (by decide) ?_
                  exact r_iret C dX11_refusalOfParting_55 rfl rfl trivial
                · refine r_bipush C (-6 : Int32) dX11_refusalOfParting_49 (by decide) ?_
                  refine r_goto C 55 dX11_refusalOfParting_51 (by decide) ?_
                  exact r_iret C dX11_refusalOfParting_55 rfl rfl trivial
        · refine r_bipush C (-4 : Int32) dX11_refusalOfParting_20 (by decide) ?_
          exact r_iret C dX11_refusalOfParting_22 rfl rfl trivial
theorem c_p_PE_refusalOfParting (l : Launch) (ω : Wd) (ad : Nat → Nat → Nat) (N : Nat → Nat) (σ : St) (a0 : Int32) (a1 : Int32) (a2 : Int32) (a3 : Int32) : ∀ r : Int32, p_PE_refusalOfParting a0 a1 a2 a3 = some r → Ct l yX11_refusalOfParting cX11_refusalOfParting 4 (some .int) ({ frames := 0, cells := 0, slots := 0, locals := 0 } : Room) LC ω ad N [.int a0, .int a1, .int a2, .int a3] σ (some (.int r)) σ (True) :=
  ct_of (o := fun r : Int32 => (some (.int r))) (s' := fun r => σ) (P := fun r => True) [some (.int a0), some (.int a1), some (.int a2), some (.int a3)] (by decide) rfl (Nat.le_of_ble_eq_true rfl) (fun Γ C _ _ => w_p_PE_refusalOfParting (Γ, ω, 4, ad, N, 0, 0) σ a0 a1 a2 a3 C)
theorem vw_X2_part : VW yX2_part cX2_part 7 none 5 := ⟨⟨(in_wt 87 (by decide +kernel) (by decide +kernel)), (in_wt 1097 (by decide +kernel) (by decide +kernel)), by decide +kernel⟩, (in_wt 1095 (by decide +kernel) (by decide +kernel)), (in_wt 1096 (by decide +kernel) (by decide +kernel))⟩
theorem vw_X2_weeksPaid : VW yX2_weeksPaid cX2_weeksPaid 1 (some .int) 0 := ⟨⟨(in_wt 87 (by decide +kernel) (by decide +kernel)), (in_wt 1126 (by decide +kernel) (by decide +kernel)), by decide +kernel⟩, (in_wt 1124 (by decide +kernel) (by decide +kernel)), (in_wt 1125 (by decide +kernel) (by decide +kernel))⟩
theorem sw_X11_refusalOfParting : SW yX11_refusalOfParting cX11_refusalOfParting 4 (some .int) 4 := ⟨⟨(in_wt 80 (by decide +kernel) (by decide +kernel)), (in_wt 1093 (by decide +kernel) (by decide +kernel)), by decide +kernel⟩, (in_wt 1092 (by decide +kernel) (by decide +kernel))⟩
theorem ml_X11_303 : Cond.methodLink RX11 303 yX11_refusalOfParting ∈ wt := in_wt 1091 (by decide +kernel) (by decide +kernel)
theorem ml_X11_307 : Cond.methodLink RX11 307 yX2_part ∈ wt := in_wt 1094 (by decide +kernel) (by decide +kernel)
theorem ml_X11_311 : Cond.methodLink RX11 311 yX2_weeksPaid ∈ wt := in_wt 1123 (by decide +kernel) (by decide +kernel)
/-- PostsEnd.public int weeks(int, int, int, int, int) -/
def p_PE_weeks (σ : St) (a1 : Int32) (a2 : Int32) (a3 : Int32) (a4 : Int32) (a5 : Int32) : Option (Int32 × St) := (Option.bind (p_PE_isPlace a1) fun r1 => (if r1 = 0 then (Option.bind (p_PE_refuse σ (-1 : Int32)) fun r11 => some (r11.1, r11.2)) else (Option.bind (p_PE_refusalOfParting a2 a3 a4 a5) fun r3 => (if r3 = 0 then (Option.bind (p_Endings_part σ a1 (σ.1 0 1 0) a2 a3 a4) fun r5 => (Option.bind (p_Endings_weeksPaid r5) fun r7 => some (r7 * a5, r5))) else (Option.bind (p_PE_refuse σ r3) fun r9 => some (r9.1, r9.2))))))
set_option maxRecDepth 20000 in
set_option maxHeartbeats 4000000 in
theorem w_p_PE_weeks (Θ : TT) (σ : St) (a1 : Int32) (a2 : Int32) (a3 : Int32) (a4 : Int32) (a5 : Int32) (C : CX Θ cX11_weeks RX11 (some .int) ({ frames := 5, cells := 0, slots := 0, locals := 115 } : Room) 7) : WA LC Θ (fun r : Int32 × St => Qm LC Θ (some (.int r.1)) r.2 (True)) 0 [some (.ref (cF Θ 0)), some (.int a1), some (.int a2), some (.int a3), some (.int a4), some (.int a5), none] [] σ (p_PE_weeks σ a1 a2 a3 a4 a5) := by
  unfold p_PE_weeks
  refine r_iload_n C dX11_weeks_0 rfl ?_
  refine r_callS C (st := []) (As := [.int a1]) dX11_weeks_1 ml_X11_284 sw_X11_isPlace (fun r1 e => c_p_PE_isPlace Θ.1.2.1 (cW Θ) (cAd Θ) (cN Θ) σ a1 r1 e) rfl rfl (Nat.le_of_ble_eq_true rfl) ⟨rfl, rfl, by decide, by decide⟩ (fun r1 h2 => ?_)
  refine r_if_ne C 13 dX11_weeks_4 (by decide) ?_ ?_
  · refine r_iload_n C dX11_weeks_13 rfl ?_
    refine r_iload_n C dX11_weeks_14 rfl ?_
    refine r_iload C dX11_weeks_15 rfl ?_
    refine r_iload C dX11_weeks_17 rfl ?_
    refine r_callS C (st := []) (As := [.int a2, .int a3, .int a4, .int a5]) dX11_weeks_19 ml_X11_303 sw_X11_refusalOfParting (fun r3 e => c_p_PE_refusalOfParting Θ.1.2.1 (cW Θ) (cAd Θ) (cN Θ) σ a2 a3 a4 a5 r3 e) rfl rfl (Nat.le_of_ble_eq_true rfl) ⟨rfl, rfl, by decide, by decide⟩ (fun r3 h4 => ?_)
    refine r_istore C [some (.ref (cF Θ 0)), some (.int a1), some (.int a2), some (.int a3), some (.int a4), some (.int a5), some (.int r3)] dX11_weeks_22 rfl (by decide) rfl ?_
    refine r_iload C dX11_weeks_24 rfl ?_
    refine r_if_eq C 36 dX11_weeks_26 (by decide) ?_ ?_
    · refine r_aload_n C dX11_weeks_36 rfl ?_
      refine r_getF0 C dX11_weeks_37 fg_X11_56 (by decide) ?_
      refine r_iload_n C dX11_weeks_40 rfl ?_
      refine r_aload_n C dX11_weeks_41 rfl ?_
      refine r_getF0 C dX11_weeks_42 fg_X11_10 (by decide) ?_
      refine r_getI0 C dX11_weeks_45 fg_X11_68 (by decide) ?_
      refine r_iload_n C dX11_weeks_48 rfl ?_
      refine r_iload_n C dX11_weeks_49 rfl ?_
      refine r_iload C dX11_weeks_50 rfl ?_
      refine r_callV C (st := []) (As := [.int a1, .int (σ.1 0 1 0), .int a2, .int a3, .int a4]) (d := 0) (j := 7) dX11_weeks_52 ml_X11_307 vw_X2_part ⟨_, _, _, _, rfl, rfl⟩ (dm0 (by decide)) (fun r5 e => c_p_Endings_part Θ.1.2.1 (cW Θ) (cAd Θ) (cN Θ) σ a1 (σ.1 0 1 0) a2 a3 a4 r5 e) rfl rfl (Nat.le_of_ble_eq_true rfl) ⟨rfl, rfl, by decide, by decide⟩ (fun r5 h6 => ?_)
      refine r_aload_n C dX11_weeks_55 rfl ?_
      refine r_getF0 C dX11_weeks_56 fg_X11_56 (by decide) ?_
      refine r_callV C (st := []) (As := []) (d := 0) (j := 7) dX11_weeks_59 ml_X11_311 vw_X2_weeksPaid ⟨_, _, _, _, rfl, rfl⟩ (dm0 (by decide)) (fun r7 e => c_p_Endings_weeksPaid Θ.1.2.1 (cW Θ) (cAd Θ) (cN Θ) r5 r7 e) rfl rfl (Nat.le_of_ble_eq_true rfl) ⟨rfl, rfl, by decide, by decide⟩ (fun r7 h8 => ?_)
      refine r_iload C dX11_weeks_62 rfl ?_
      refine r_imul C dX11_weeks_64 ?_
      exact r_iret C dX11_weeks_65 rfl rfl trivial
    · refine r_aload_n C dX11_weeks_29 rfl ?_
      refine r_iload C dX11_weeks_30 rfl ?_
      refine r_callV C (st := []) (As := [.int r3]) (d := 0) (j := 0) dX11_weeks_32 ml_X11_64 vw_X11_refuse ⟨_, _, _, _, rfl, rfl⟩ (dm0 (by decide)) (fun r9 e => c_p_PE_refuse Θ.1.2.1 (cW Θ) (cAd Θ) (cN Θ) σ r3 r9 e) rfl rfl (Nat.le_of_ble_eq_true rfl) ⟨rfl, rfl, by decide, by decide⟩ (fun r9 h10 => ?_)
      exact r_iret C dX11_weeks_35 rfl rfl trivial
  · refine r_aload_n C dX11_weeks_7 rfl ?_
    refine r_iconst C (-1 : Int32) dX11_weeks_8 (by decide) ?_
    refine r_callV C (st := []) (As := [.int (-1 : Int32)]) (d := 0) (j := 0) dX11_weeks_9 ml_X11_64 vw_X11_refuse ⟨_, _, _, _, rfl, rfl⟩ (dm0 (by decide)) (fun r11 e => c_p_PE_refuse Θ.1.2.1 (cW Θ) (cAd Θ) (cN Θ) σ (-1 : Int32) r11 e) rfl rfl (Nat.le_of_ble_eq_true rfl) ⟨rfl, rfl, by decide, by decide⟩ (fun r11 h12 => ?_)
    exact r_iret C dX11_weeks_12 rfl rfl trivial
theorem c_p_PE_weeks (l : Launch) (ω : Wd) (ad : Nat → Nat → Nat) (N : Nat → Nat) (σ : St) (a1 : Int32) (a2 : Int32) (a3 : Int32) (a4 : Int32) (a5 : Int32) : ∀ r : Int32 × St, p_PE_weeks σ a1 a2 a3 a4 a5 = some r → Ct l yX11_weeks cX11_weeks 7 (some .int) ({ frames := 5, cells := 0, slots := 0, locals := 115 } : Room) LC ω ad N [.ref (ω.2.1 0), .int a1, .int a2, .int a3, .int a4, .int a5] σ (some (.int r.1)) r.2 (True) :=
  ct_of (o := fun r : Int32 × St => (some (.int r.1))) (s' := fun r => r.2) (P := fun r => True) [some (.ref (ω.2.1 0)), some (.int a1), some (.int a2), some (.int a3), some (.int a4), some (.int a5), none] (by decide) rfl (Nat.le_of_ble_eq_true rfl) (fun Γ C _ _ => w_p_PE_weeks (Γ, ω, 7, ad, N, 0, 0) σ a1 a2 a3 a4 a5 C)
theorem vw_X2_partIn : VW yX2_partIn cX2_partIn 4 (some .int) 1 := ⟨⟨(in_wt 87 (by decide +kernel) (by decide +kernel)), (in_wt 1134 (by decide +kernel) (by decide +kernel)), by decide +kernel⟩, (in_wt 1132 (by decide +kernel) (by decide +kernel)), (in_wt 1133 (by decide +kernel) (by decide +kernel))⟩
theorem ml_X11_315 : Cond.methodLink RX11 315 yX2_partIn ∈ wt := in_wt 1131 (by decide +kernel) (by decide +kernel)
/-- PostsEnd.public int weekOf(int, int, int, int, int, int) -/
def p_PE_weekOf (σ : St) (a1 : Int32) (a2 : Int32) (a3 : Int32) (a4 : Int32) (a5 : Int32) (a6 : Int32) : Option (Int32 × St) := (Option.bind (p_PE_isPlace a1) fun r1 => (if r1 = 0 then (Option.bind (p_PE_refuse σ (-1 : Int32)) fun r3 => some (r3.1, r3.2)) else (if a6 < 0 then (Option.bind (p_PE_refuse σ (-1 : Int32)) fun r5 => some (r5.1, r5.2)) else (if a6 < a3 then (Option.bind (p_PE_refusalOfParting a2 a3 a4 a5) fun r7 => (if r7 = 0 then (Option.bind (p_Endings_part σ a1 (σ.1 0 1 0) a2 a3 a4) fun r9 => (Option.bind (p_Endings_partIn r9 a6) fun r11 => some (r11, r9))) else (Option.bind (p_PE_refuse σ r7) fun r13 => some (r13.1, r13.2)))) else (Option.bind (p_PE_refuse σ (-1 : Int32)) fun r15 => some (r15.1, r15.2))))))
set_option maxRecDepth 20000 in
set_option maxHeartbeats 4000000 in
theorem w_p_PE_weekOf (Θ : TT) (σ : St) (a1 : Int32) (a2 : Int32) (a3 : Int32) (a4 : Int32) (a5 : Int32) (a6 : Int32) (C : CX Θ cX11_weekOf RX11 (some .int) ({ frames := 5, cells := 0, slots := 0, locals := 115 } : Room) 8) : WA LC Θ (fun r : Int32 × St => Qm LC Θ (some (.int r.1)) r.2 (True)) 0 [some (.ref (cF Θ 0)), some (.int a1), some (.int a2), some (.int a3), some (.int a4), some (.int a5), some (.int a6), none] [] σ (p_PE_weekOf σ a1 a2 a3 a4 a5 a6) := by
  unfold p_PE_weekOf
  refine r_iload_n C dX11_weekOf_0 rfl ?_
  refine r_callS C (st := []) (As := [.int a1]) dX11_weekOf_1 ml_X11_284 sw_X11_isPlace (fun r1 e => c_p_PE_isPlace Θ.1.2.1 (cW Θ) (cAd Θ) (cN Θ) σ a1 r1 e) rfl rfl (Nat.le_of_ble_eq_true rfl) ⟨rfl, rfl, by decide, by decide⟩ (fun r1 h2 => ?_)
  refine r_if_eq C 18 dX11_weekOf_4 (by decide) ?_ ?_
  · refine r_aload_n C dX11_weekOf_18 rfl ?_
    refine r_iconst C (-1 : Int32) dX11_weekOf_19 (by decide) ?_
    refine r_callV C (st := []) (As := [.int (-1 : Int32)]) (d := 0) (j := 0) dX11_weekOf_20 ml_X11_64 vw_X11_refuse ⟨_, _, _, _, rfl, rfl⟩ (dm0 (by decide)) (fun r3 e => c_p_PE_refuse Θ.1.2.1 (cW Θ) (cAd Θ) (cN Θ) σ (-1 : Int32) r3 e) rfl rfl (Nat.le_of_ble_eq_true rfl) ⟨rfl, rfl, by decide, by decide⟩ (fun r3 h4 => ?_)
    exact r_iret C dX11_weekOf_23 rfl rfl trivial
  · refine r_iload C dX11_weekOf_7 rfl ?_
    refine r_if_lt C 18 dX11_weekOf_9 (by decide) ?_ ?_
    · refine r_aload_n C dX11_weekOf_18 rfl ?_
      refine r_iconst C (-1 : Int32) dX11_weekOf_19 (by decide) ?_
      refine r_callV C (st := []) (As := [.int (-1 : Int32)]) (d := 0) (j := 0) dX11_weekOf_20 ml_X11_64 vw_X11_refuse ⟨_, _, _, _, rfl, rfl⟩ (dm0 (by decide)) (fun r5 e => c_p_PE_refuse Θ.1.2.1 (cW Θ) (cAd Θ) (cN Θ) σ (-1 : Int32) r5 e) rfl rfl (Nat.le_of_ble_eq_true rfl) ⟨rfl, rfl, by decide, by decide⟩ (fun r5 h6 => ?_)
      exact r_iret C dX11_weekOf_23 rfl rfl trivial
    · refine r_iload C dX11_weekOf_12 rfl ?_
      refine r_iload_n C dX11_weekOf_14 rfl ?_
      refine r_icmp_lt C 24 dX11_weekOf_15 (by decide) ?_ ?_
      · refine r_iload_n C dX11_weekOf_24 rfl ?_
        refine r_iload_n C dX11_weekOf_25 rfl ?_
        refine r_iload C dX11_weekOf_26 rfl ?_
        refine r_iload C dX11_weekOf_28 rfl ?_
        refine r_callS C (st := []) (As := [.int a2, .int a3, .int a4, .int a5]) dX11_weekOf_30 ml_X11_303 sw_X11_refusalOfParting (fun r7 e => c_p_PE_refusalOfParting Θ.1.2.1 (cW Θ) (cAd Θ) (cN Θ) σ a2 a3 a4 a5 r7 e) rfl rfl (Nat.le_of_ble_eq_true rfl) ⟨rfl, rfl, by decide, by decide⟩ (fun r7 h8 => ?_)
        refine r_istore C [some (.ref (cF Θ 0)), some (.int a1), some (.int a2), some (.int a3), some (.int a4), some (.int a5), some (.int a6), some (.int r7)] dX11_weekOf_33 rfl (by decide) rfl ?_
        refine r_iload C dX11_weekOf_35 rfl ?_
        refine r_if_eq C 47 dX11_weekOf_37 (by decide) ?_ ?_
        · refine r_aload_n C dX11_weekOf_47 rfl ?_
          refine r_getF0 C dX11_weekOf_48 fg_X11_56 (by decide) ?_
          refine r_iload_n C dX11_weekOf_51 rfl ?_
          refine r_aload_n C dX11_weekOf_52 rfl ?_
          refine r_getF0 C dX11_weekOf_53 fg_X11_10 (by decide) ?_
          refine r_getI0 C dX11_weekOf_56 fg_X11_68 (by decide) ?_
          refine r_iload_n C dX11_weekOf_59 rfl ?_
          refine r_iload_n C dX11_weekOf_60 rfl ?_
          refine r_iload C dX11_weekOf_61 rfl ?_
          refine r_callV C (st := []) (As := [.int a1, .int (σ.1 0 1 0), .int a2, .int a3, .int a4]) (d := 0) (j := 7) dX11_weekOf_63 ml_X11_307 vw_X2_part ⟨_, _, _, _, rfl, rfl⟩ (dm0 (by decide)) (fun r9 e => c_p_Endings_part Θ.1.2.1 (cW Θ) (cAd Θ) (cN Θ) σ a1 (σ.1 0 1 0) a2 a3 a4 r9 e) rfl rfl (Nat.le_of_ble_eq_true rfl) ⟨rfl, rfl, by decide, by decide⟩ (fun r9 h10 => ?_)
          refine r_aload_n C dX11_weekOf_66 rfl ?_
          refine r_getF0 C dX11_weekOf_67 fg_X11_56 (by decide) ?_
          refine r_iload C dX11_weekOf_70 rfl ?_
          refine r_callV C (st := []) (As := [.int a6]) (d := 0) (j := 7) dX11_weekOf_72 ml_X11_315 vw_X2_partIn ⟨_, _, _, _, rfl, rfl⟩ (dm0 (by decide)) (fun r11 e => c_p_Endings_partIn Θ.1.2.1 (cW Θ) (cAd Θ) (cN Θ) r9 a6 r11 e) rfl rfl (Nat.le_of_ble_eq_true rfl) ⟨rfl, rfl, by decide, by decide⟩ (fun r11 h12 => ?_)
          exact r_iret C dX11_weekOf_75 rfl rfl trivial
        · refine r_aload_n C dX11_weekOf_40 rfl ?_
          refine r_iload C dX11_weekOf_41 rfl ?_
          refine r_callV C (st := []) (As := [.int r7]) (d := 0) (j := 0) dX11_weekOf_43 ml_X11_64 vw_X11_refuse ⟨_, _, _, _, rfl, rfl⟩ (dm0 (by decide)) (fun r13 e => c_p_PE_refuse Θ.1.2.1 (cW Θ) (cAd Θ) (cN Θ) σ r7 r13 e) rfl rfl (Nat.le_of_ble_eq_true rfl) ⟨rfl, rfl, by decide, by decide⟩ (fun r13 h14 => ?_)
          exact r_iret C dX11_weekOf_46 rfl rfl trivial
      · refine r_aload_n C dX11_weekOf_18 rfl ?_
        refine r_iconst C (-1 : Int32) dX11_weekOf_19 (by decide) ?_
        refine r_callV C (st := []) (As := [.int (-1 : Int32)]) (d := 0) (j := 0) dX11_weekOf_20 ml_X11_64 vw_X11_refuse ⟨_, _, _, _, rfl, rfl⟩ (dm0 (by decide)) (fun r15 e => c_p_PE_refuse Θ.1.2.1 (cW Θ) (cAd Θ) (cN Θ) σ (-1 : Int32) r15 e) rfl rfl (Nat.le_of_ble_eq_true rfl) ⟨rfl, rfl, by decide, by decide⟩ (fun r15 h16 => ?_)
        exact r_iret C dX11_weekOf_23 rfl rfl trivial
theorem c_p_PE_weekOf (l : Launch) (ω : Wd) (ad : Nat → Nat → Nat) (N : Nat → Nat) (σ : St) (a1 : Int32) (a2 : Int32) (a3 : Int32) (a4 : Int32) (a5 : Int32) (a6 : Int32) : ∀ r : Int32 × St, p_PE_weekOf σ a1 a2 a3 a4 a5 a6 = some r → Ct l yX11_weekOf cX11_weekOf 8 (some .int) ({ frames := 5, cells := 0, slots := 0, locals := 115 } : Room) LC ω ad N [.ref (ω.2.1 0), .int a1, .int a2, .int a3, .int a4, .int a5, .int a6] σ (some (.int r.1)) r.2 (True) :=
  ct_of (o := fun r : Int32 × St => (some (.int r.1))) (s' := fun r => r.2) (P := fun r => True) [some (.ref (ω.2.1 0)), some (.int a1), some (.int a2), some (.int a3), some (.int a4), some (.int a5), some (.int a6), none] (by decide) rfl (Nat.le_of_ble_eq_true rfl) (fun Γ C _ _ => w_p_PE_weekOf (Γ, ω, 8, ad, N, 0, 0) σ a1 a2 a3 a4 a5 a6 C)
theorem vw_X8_turnedBy : VW yX8_turnedBy cX8_turnedBy 7 (some .int) 3 := ⟨⟨(in_wt 83 (by decide +kernel) (by decide +kernel)), (in_wt 1150 (by decide +kernel) (by decide +kernel)), by decide +kernel⟩, (in_wt 1148 (by decide +kernel) (by decide +kernel)), (in_wt 1149 (by decide +kernel) (by decide +kernel))⟩
theorem ml_X11_318 : Cond.methodLink RX11 318 yX8_placeOf ∈ wt := in_wt 1143 (by decide +kernel) (by decide +kernel)
theorem ml_X11_319 : Cond.methodLink RX11 319 yX8_turnedBy ∈ wt := in_wt 1147 (by decide +kernel) (by decide +kernel)
/-- PostsEnd.public int turning(int, int, int, int, int) -/
def p_PE_turning (σ : St) (a1 : Int32) (a2 : Int32) (a3 : Int32) (a4 : Int32) (a5 : Int32) : Option (Int32 × St) := (Option.bind (p_Firm_personAt σ a4) fun r1 => (Option.elim r1 ((Option.bind (p_PE_refuse σ (-1 : Int32)) fun r5 => some (r5.1, r5.2))) fun q3 => (Option.bind (p_Pools_take σ a1 a2) fun r7 => (if r7.1 = 0 then (Option.bind (p_PE_refuse r7.2 (-1 : Int32)) fun r25 => some (r25.1, r25.2)) else (Option.bind (p_Ranks_gather r7.2) fun r9 => (Option.bind (p_Ranks_placeOf r9 q3) fun r11 => (if r11 < 0 then (Option.bind (p_PE_refuse r9 (-1 : Int32)) fun r23 => some (r23.1, r23.2)) else (if a5 < 0 then (Option.bind (p_PE_refuse r9 (-2 : Int32)) fun r13 => some (r13.1, r13.2)) else (if a5 < (4 : Int32) then (Option.bind (p_PE_refusalOfNumber a3) fun r15 => (if r15 = 0 then (Option.bind (p_Ranks_turnedBy r9 r11 a3 a5) fun r17 => some (r17.1, r17.2)) else (Option.bind (p_PE_refuse r9 r15) fun r19 => some (r19.1, r19.2)))) else (Option.bind (p_PE_refuse r9 (-2 : Int32)) fun r21 => some (r21.1, r21.2)))))))))))
set_option maxRecDepth 20000 in
set_option maxHeartbeats 4000000 in
theorem w_p_PE_turning (Θ : TT) (σ : St) (a1 : Int32) (a2 : Int32) (a3 : Int32) (a4 : Int32) (a5 : Int32) (C : CX Θ cX11_turning RX11 (some .int) ({ frames := 6, cells := 0, slots := 0, locals := 137 } : Room) 9) : WA LC Θ (fun r : Int32 × St => Qm LC Θ (some (.int r.1)) r.2 (True)) 0 [some (.ref (cF Θ 0)), some (.int a1), some (.int a2), some (.int a3), some (.int a4), some (.int a5), none, none, none] [] σ (p_PE_turning σ a1 a2 a3 a4 a5) := by
  unfold p_PE_turning
  refine r_aload_n C dX11_turning_0 rfl ?_
  refine r_getF0 C dX11_turning_1 fg_X11_10 (by decide) ?_
  refine r_iload C dX11_turning_4 rfl ?_
  refine r_callV C (st := []) (As := [.int a4]) (d := 0) (j := 1) dX11_turning_6 ml_X11_134 vw_X3_personAt ⟨_, _, _, _, rfl, rfl⟩ (dm0 (by decide)) (fun r1 e => c_p_Firm_personAt Θ.1.2.1 (cW Θ) (cAd Θ) (cN Θ) σ a4 r1 e) rfl rfl (Nat.le_of_ble_eq_true rfl) ⟨rfl, rfl, by decide, by decide⟩ (fun r1 h2 => ?_)
  refine r_astore C (x := Option.map (cAd Θ 2) r1) [some (.ref (cF Θ 0)), some (.int a1), some (.int a2), some (.int a3), some (.int a4), some (.int a5), some (va_rf (Option.map (cAd Θ 2) r1)), none, none] dX11_turning_9 rfl (by decide) rfl ?_
  refine r_aloadQ C (x := Option.map (cAd Θ 2) r1) dX11_turning_11 rfl ?_
  rcases r1 with _ | q3
  · refine r_ifnullN C 28 dX11_turning_13 (by decide) ?_
    refine r_aload_n C dX11_turning_28 rfl ?_
    refine r_iconst C (-1 : Int32) dX11_turning_29 (by decide) ?_
    refine r_callV C (st := []) (As := [.int (-1 : Int32)]) (d := 0) (j := 0) dX11_turning_30 ml_X11_64 vw_X11_refuse ⟨_, _, _, _, rfl, rfl⟩ (dm0 (by decide)) (fun r5 e => c_p_PE_refuse Θ.1.2.1 (cW Θ) (cAd Θ) (cN Θ) σ (-1 : Int32) r5 e) rfl rfl (Nat.le_of_ble_eq_true rfl) ⟨rfl, rfl, by decide, by decide⟩ (fun r5 h6 => ?_)
    exact r_iret C dX11_turning_33 rfl rfl trivial
  · have h4 := h2 q3 rfl
    refine r_ifnullS C dX11_turning_13 ?_
    refine r_aload_n C dX11_turning_16 rfl ?_
    refine r_getF0 C dX11_turning_17 fg_X11_21 (by decide) ?_
    refine r_iload_n C dX11_turning_20 rfl ?_
    refine r_iload_n C dX11_turning_21 rfl ?_
    refine r_callV C (st := []) (As := [.int a1, .int a2]) (d := 0) (j := 2) dX11_turning_22 ml_X11_206 vw_X6_take ⟨_, _, _, _, rfl, rfl⟩ (dm0 (by decide)) (fun r7 e => c_p_Pools_take Θ.1.2.1 (cW Θ) (cAd Θ) (cN Θ) σ a1 a2 r7 e) rfl rfl (Nat.le_of_ble_eq_true rfl) ⟨rfl, rfl, by decide, by decide⟩ (fun r7 h8 => ?_)
    refine r_if_ne C 34 dX11_turning_25 (by decide) ?_ ?_
    · refine r_aload_n C dX11_turning_34 rfl ?_
      refine r_getF0 C dX11_turning_35 fg_X11_28 (by decide) ?_
      refine r_aload_n C dX11_turning_38 rfl ?_
      refine r_getF0 C dX11_turning_39 fg_X11_21 (by decide) ?_
      refine r_callV C (st := []) (As := [.ref (cF Θ 2)]) (d := 0) (j := 3) dX11_turning_42 ml_X11_213 vw_X8_gather ⟨_, _, _, _, rfl, rfl⟩ (dm0 (by decide)) (fun r9 e => c_p_Ranks_gather Θ.1.2.1 (cW Θ) (cAd Θ) (cN Θ) r7.2 r9 e) rfl rfl (Nat.le_of_ble_eq_true rfl) ⟨rfl, rfl, by decide, by decide⟩ (fun r9 h10 => ?_)
      refine r_aload_n C dX11_turning_45 rfl ?_
      refine r_getF0 C dX11_turning_46 fg_X11_28 (by decide) ?_
      refine r_aload C dX11_turning_49 rfl ?_
      refine r_callV C (st := []) (As := [.ref (cAd Θ 2 q3)]) (d := 0) (j := 3) dX11_turning_51 ml_X11_318 vw_X8_placeOf ⟨_, _, _, _, rfl, rfl⟩ (dm0 (by decide)) (fun r11 e => c_p_Ranks_placeOf Θ.1.2.1 (cW Θ) (cAd Θ) (cN Θ) r9 q3 h4 r11 e) rfl rfl (Nat.le_of_ble_eq_true rfl) ⟨rfl, rfl, by decide, by decide⟩ (fun r11 h12 => ?_)
      refine r_istore C [some (.ref (cF Θ 0)), some (.int a1), some (.int a2), some (.int a3), some (.int a4), some (.int a5), some (.ref (cAd Θ 2 q3)), some (.int r11), none] dX11_turning_54 rfl (by decide) rfl ?_
      refine r_iload C dX11_turning_56 rfl ?_
      refine r_if_ge C 67 dX11_turning_58 (by decide) ?_ ?_
      · refine r_iload C dX11_turning_67 rfl ?_
        refine r_if_lt C 78 dX11_turning_69 (by decide) ?_ ?_
        · refine r_aload_n C dX11_turning_78 rfl ?_
          refine r_bipush C (-2 : Int32) dX11_turning_79 (by decide) ?_
          refine r_callV C (st := []) (As := [.int (-2 : Int32)]) (d := 0) (j := 0) dX11_turning_81 ml_X11_64 vw_X11_refuse ⟨_, _, _, _, rfl, rfl⟩ (dm0 (by decide)) (fun r13 e => c_p_PE_refuse Θ.1.2.1 (cW Θ) (cAd Θ) (cN Θ) r9 (-2 : Int32) r13 e) rfl rfl (Nat.le_of_ble_eq_true rfl) ⟨rfl, rfl, by decide, by decide⟩ (fun r13 h14 => ?_)
          exact r_iret C dX11_turning_84 rfl rfl trivial
        · refine r_iload C dX11_turning_72 rfl ?_
          refine r_iconst C (4 : Int32) dX11_turning_74 (by decide) ?_
          refine r_icmp_lt C 85 dX11_turning_75 (by decide) ?_ ?_
          · refine r_iload_n C dX11_turning_85 rfl ?_
            refine r_callS C (st := []) (As := [.int a3]) dX11_turning_86 ml_X11_210 sw_X11_refusalOfNumber (fun r15 e => c_p_PE_refusalOfNumber Θ.1.2.1 (cW Θ) (cAd Θ) (cN Θ) r9 a3 r15 e) rfl rfl (Nat.le_of_ble_eq_true rfl) ⟨rfl, rfl, by decide, by decide⟩ (fun r15 h16 => ?_)
            refine r_istore C [some (.ref (cF Θ 0)), some (.int a1), some (.int a2), some (.int a3), some (.int a4), some (.int a5), some (.ref (cAd Θ 2 q3)), some (.int r11), some (.int r15)] dX11_turning_89 rfl (by decide) rfl ?_
            refine r_iload C dX11_turning_91 rfl ?_
            refine r_if_eq C 103 dX11_turning_93 (by decide) ?_ ?_
            · refine r_aload_n C dX11_turning_103 rfl ?_
              refine r_getF0 C dX11_turning_104 fg_X11_28 (by decide) ?_
              refine r_iload C dX11_turning_107 rfl ?_
              refine r_iload_n C dX11_turning_109 rfl ?_
              refine r_iload C dX11_turning_110 rfl ?_
              refine r_callV C (st := []) (As := [.int r11, .int a3, .int a5]) (d := 0) (j := 3) dX11_turning_112 ml_X11_319 vw_X8_turnedBy ⟨_, _, _, _, rfl, rfl⟩ (dm0 (by decide)) (fun r17 e => c_p_Ranks_turnedBy Θ.1.2.1 (cW Θ) (cAd Θ) (cN Θ) r9 r11 a3 a5 r17 e) rfl rfl (Nat.le_of_ble_eq_true rfl) ⟨rfl, rfl, by decide, by decide⟩ (fun r17 h18 => ?_)
              exact r_iret C dX11_turning_115 rfl rfl trivial
            · refine r_aload_n C dX11_turning_96 rfl ?_
              refine r_iload C dX11_turning_97 rfl ?_
              refine r_callV C (st := []) (As := [.int r15]) (d := 0) (j := 0) dX11_turning_99 ml_X11_64 vw_X11_refuse ⟨_, _, _, _, rfl, rfl⟩ (dm0 (by decide)) (fun r19 e => c_p_PE_refuse Θ.1.2.1 (cW Θ) (cAd Θ) (cN Θ) r9 r15 r19 e) rfl rfl (Nat.le_of_ble_eq_true rfl) ⟨rfl, rfl, by decide, by decide⟩ (fun r19 h20 => ?_)
              exact r_iret C dX11_turning_102 rfl rfl trivial
          · refine r_aload_n C dX11_turning_78 rfl ?_
            refine r_bipush C (-2 : Int32) dX11_turning_79 (by decide) ?_
            refine r_callV C (st := []) (As := [.int (-2 : Int32)]) (d := 0) (j := 0) dX11_turning_81 ml_X11_64 vw_X11_refuse ⟨_, _, _, _, rfl, rfl⟩ (dm0 (by decide)) (fun r21 e => c_p_PE_refuse Θ.1.2.1 (cW Θ) (cAd Θ) (cN Θ) r9 (-2 : Int32) r21 e) rfl rfl (Nat.le_of_ble_eq_true rfl) ⟨rfl, rfl, by decide, by decide⟩ (fun r21 h22 => ?_)
            exact r_iret C dX11_turning_84 rfl rfl trivial
      · refine r_aload_n C dX11_turning_61 rfl ?_
        refine r_iconst C (-1 : Int32) dX11_turning_62 (by decide) ?_
        refine r_callV C (st := []) (As := [.int (-1 : Int32)]) (d := 0) (j := 0) dX11_turning_63 ml_X11_64 vw_X11_refuse ⟨_, _, _, _, rfl, rfl⟩ (dm0 (by decide)) (fun r23 e => c_p_PE_refuse Θ.1.2.1 (cW Θ) (cAd Θ) (cN Θ) r9 (-1 : Int32) r23 e) rfl rfl (Nat.le_of_ble_eq_true rfl) ⟨rfl, rfl, by decide, by decide⟩ (fun r23 h24 => ?_)
        exact r_iret C dX11_turning_66 rfl rfl trivial
    · refine r_aload_n C dX11_turning_28 rfl ?_
      refine r_iconst C (-1 : Int32) dX11_turning_29 (by decide) ?_
      refine r_callV C (st := []) (As := [.int (-1 : Int32)]) (d := 0) (j := 0) dX11_turning_30 ml_X11_64 vw_X11_refuse ⟨_, _, _, _, rfl, rfl⟩ (dm0 (by decide)) (fun r25 e => c_p_PE_refuse Θ.1.2.1 (cW Θ) (cAd Θ) (cN Θ) r7.2 (-1 : Int32) r25 e) rfl rfl (Nat.le_of_ble_eq_true rfl) ⟨rfl, rfl, by decide, by decide⟩ (fun r25 h26 => ?_)
      exact r_iret C dX11_turning_33 rfl rfl trivial
theorem c_p_PE_turning (l : Launch) (ω : Wd) (ad : Nat → Nat → Nat) (N : Nat → Nat) (σ : St) (a1 : Int32) (a2 : Int32) (a3 : Int32) (a4 : Int32) (a5 : Int32) : ∀ r : Int32 × St, p_PE_turning σ a1 a2 a3 a4 a5 = some r → Ct l yX11_turning cX11_turning 9 (some .int) ({ frames := 6, cells := 0, slots := 0, locals := 137 } : Room) LC ω ad N [.ref (ω.2.1 0), .int a1, .int a2, .int a3, .int a4, .int a5] σ (some (.int r.1)) r.2 (True) :=
  ct_of (o := fun r : Int32 × St => (some (.int r.1))) (s' := fun r => r.2) (P := fun r => True) [some (.ref (ω.2.1 0)), some (.int a1), some (.int a2), some (.int a3), some (.int a4), some (.int a5), none, none, none] (by decide) rfl (Nat.le_of_ble_eq_true rfl) (fun Γ C _ _ => w_p_PE_turning (Γ, ω, 9, ad, N, 0, 0) σ a1 a2 a3 a4 a5 C)
theorem vw_X8_movedBy : VW yX8_movedBy cX8_movedBy 5 (some .int) 3 := ⟨⟨(in_wt 83 (by decide +kernel) (by decide +kernel)), (in_wt 1167 (by decide +kernel) (by decide +kernel)), by decide +kernel⟩, (in_wt 1165 (by decide +kernel) (by decide +kernel)), (in_wt 1166 (by decide +kernel) (by decide +kernel))⟩
theorem ml_X11_322 : Cond.methodLink RX11 322 yX8_movedBy ∈ wt := in_wt 1164 (by decide +kernel) (by decide +kernel)
/-- PostsEnd.public int moved(int, int, int, int, int) -/
def p_PE_moved (σ : St) (a1 : Int32) (a2 : Int32) (a3 : Int32) (a4 : Int32) (a5 : Int32) : Option (Int32 × St) := (Option.bind (p_Firm_tellingAt σ a4) fun r1 => (Option.elim r1 ((Option.bind (p_PE_refuse σ (-1 : Int32)) fun r5 => some (r5.1, r5.2))) fun q3 => (Option.bind (p_Pools_take σ a1 a2) fun r7 => (if r7.1 = 0 then (Option.bind (p_PE_refuse r7.2 (-1 : Int32)) fun r23 => some (r23.1, r23.2)) else (if a3 < 0 then (Option.bind (p_PE_refuse r7.2 (-4 : Int32)) fun r9 => some (r9.1, r9.2)) else (if a5 < 0 then (Option.bind (p_PE_refuse r7.2 (-4 : Int32)) fun r21 => some (r21.1, r21.2)) else (if (40 : Int32) < a3 then (Option.bind (p_PE_refuse r7.2 (-6 : Int32)) fun r11 => some (r11.1, r11.2)) else (Option.bind (p_PE_mostTold (r7.2.1 3 q3 1)) fun r13 => (if r13 < a5 then (Option.bind (p_PE_refuse r7.2 (-6 : Int32)) fun r19 => some (r19.1, r19.2)) else (Option.bind (p_Ranks_gather r7.2) fun r15 => (Option.bind (p_Ranks_movedBy r15 a3 q3 a5) fun r17 => some (r17.1, r17.2))))))))))))
set_option maxRecDepth 20000 in
set_option maxHeartbeats 4000000 in
theorem w_p_PE_moved (Θ : TT) (σ : St) (a1 : Int32) (a2 : Int32) (a3 : Int32) (a4 : Int32) (a5 : Int32) (C : CX Θ cX11_moved RX11 (some .int) ({ frames := 6, cells := 0, slots := 0, locals := 137 } : Room) 7) : WA LC Θ (fun r : Int32 × St => Qm LC Θ (some (.int r.1)) r.2 (True)) 0 [some (.ref (cF Θ 0)), some (.int a1), some (.int a2), some (.int a3), some (.int a4), some (.int a5), none] [] σ (p_PE_moved σ a1 a2 a3 a4 a5) := by
  unfold p_PE_moved
  refine r_aload_n C dX11_moved_0 rfl ?_
  refine r_getF0 C dX11_moved_1 fg_X11_10 (by decide) ?_
  refine r_iload C dX11_moved_4 rfl ?_
  refine r_callV C (st := []) (As := [.int a4]) (d := 0) (j := 1) dX11_moved_6 ml_X11_174 vw_X3_tellingAt ⟨_, _, _, _, rfl, rfl⟩ (dm0 (by decide)) (fun r1 e => c_p_Firm_tellingAt Θ.1.2.1 (cW Θ) (cAd Θ) (cN Θ) σ a4 r1 e) rfl rfl (Nat.le_of_ble_eq_true rfl) ⟨rfl, rfl, by decide, by decide⟩ (fun r1 h2 => ?_)
  refine r_astore C (x := Option.map (cAd Θ 3) r1) [some (.ref (cF Θ 0)), some (.int a1), some (.int a2), some (.int a3), some (.int a4), some (.int a5), some (va_rf (Option.map (cAd Θ 3) r1))] dX11_moved_9 rfl (by decide) rfl ?_
  refine r_aloadQ C (x := Option.map (cAd Θ 3) r1) dX11_moved_11 rfl ?_
  rcases r1 with _ | q3
  · refine r_ifnullN C 28 dX11_moved_13 (by decide) ?_
    refine r_aload_n C dX11_moved_28 rfl ?_
    refine r_iconst C (-1 : Int32) dX11_moved_29 (by decide) ?_
    refine r_callV C (st := []) (As := [.int (-1 : Int32)]) (d := 0) (j := 0) dX11_moved_30 ml_X11_64 vw_X11_refuse ⟨_, _, _, _, rfl, rfl⟩ (dm0 (by decide)) (fun r5 e => c_p_PE_refuse Θ.1.2.1 (cW Θ) (cAd Θ) (cN Θ) σ (-1 : Int32) r5 e) rfl rfl (Nat.le_of_ble_eq_true rfl) ⟨rfl, rfl, by decide, by decide⟩ (fun r5 h6 => ?_)
    exact r_iret C dX11_moved_33 rfl rfl trivial
  · have h4 := h2 q3 rfl
    refine r_ifnullS C dX11_moved_13 ?_
    refine r_aload_n C dX11_moved_16 rfl ?_
    refine r_getF0 C dX11_moved_17 fg_X11_21 (by decide) ?_
    refine r_iload_n C dX11_moved_20 rfl ?_
    refine r_iload_n C dX11_moved_21 rfl ?_
    refine r_callV C (st := []) (As := [.int a1, .int a2]) (d := 0) (j := 2) dX11_moved_22 ml_X11_206 vw_X6_take ⟨_, _, _, _, rfl, rfl⟩ (dm0 (by decide)) (fun r7 e => c_p_Pools_take Θ.1.2.1 (cW Θ) (cAd Θ) (cN Θ) σ a1 a2 r7 e) rfl rfl (Nat.le_of_ble_eq_true rfl) ⟨rfl, rfl, by decide, by decide⟩ (fun r7 h8 => ?_)
    refine r_if_ne C 34 dX11_moved_25 (by decide) ?_ ?_
    · refine r_iload_n C dX11_moved_34 rfl ?_
      refine r_if_lt C 43 dX11_moved_35 (by decide) ?_ ?_
      · refine r_aload_n C dX11_moved_43 rfl ?_
        refine r_bipush C (-4 : Int32) dX11_moved_44 (by decide) ?_
        refine r_callV C (st := []) (As := [.int (-4 : Int32)]) (d := 0) (j := 0) dX11_moved_46 ml_X11_64 vw_X11_refuse ⟨_, _, _, _, rfl, rfl⟩ (dm0 (by decide)) (fun r9 e => c_p_PE_refuse Θ.1.2.1 (cW Θ) (cAd Θ) (cN Θ) r7.2 (-4 : Int32) r9 e) rfl rfl (Nat.le_of_ble_eq_true rfl) ⟨rfl, rfl, by decide, by decide⟩ (fun r9 h10 => ?_)
        exact r_iret C dX11_moved_49 rfl rfl trivial
      · refine r_iload C dX11_moved_38 rfl ?_
        refine r_if_ge C 50 dX11_moved_40 (by decide) ?_ ?_
        · refine r_iload_n C dX11_moved_50 rfl ?_
          refine r_bipush C (40 : Int32) dX11_moved_51 (by decide) ?_
          refine r_icmp_gt C 69 dX11_moved_53 (by decide) ?_ ?_
          · refine r_aload_n C dX11_moved_69 rfl ?_
            refine r_bipush C (-6 : Int32) dX11_moved_70 (by decide) ?_
            refine r_callV C (st := []) (As := [.int (-6 : Int32)]) (d := 0) (j := 0) dX11_moved_72 ml_X11_64 vw_X11_refuse ⟨_, _, _, _, rfl, rfl⟩ (dm0 (by decide)) (fun r11 e => c_p_PE_refuse Θ.1.2.1 (cW Θ) (cAd Θ) (cN Θ) r7.2 (-6 : Int32) r11 e) rfl rfl (Nat.le_of_ble_eq_true rfl) ⟨rfl, rfl, by decide, by decide⟩ (fun r11 h12 => ?_)
            exact r_iret C dX11_moved_75 rfl rfl trivial
          · refine r_iload C dX11_moved_56 rfl ?_
            refine r_aload C dX11_moved_58 rfl ?_
            refine r_getI C dX11_moved_60 (fg_X11_178 _) (by decide) h4 ?_
            refine r_callS C (st := [.int a5]) (As := [.int (r7.2.1 3 q3 1)]) dX11_moved_63 ml_X11_164 sw_X11_mostTold (fun r13 e => c_p_PE_mostTold Θ.1.2.1 (cW Θ) (cAd Θ) (cN Θ) r7.2 (r7.2.1 3 q3 1) r13 e) rfl rfl (Nat.le_of_ble_eq_true rfl) ⟨rfl, rfl, by decide, by decide⟩ (fun r13 h14 => ?_)
            refine r_icmp_le C 76 dX11_moved_66 (by decide) ?_ ?_
            · refine r_aload_n C dX11_moved_76 rfl ?_
              refine r_getF0 C dX11_moved_77 fg_X11_28 (by decide) ?_
              refine r_aload_n C dX11_moved_80 rfl ?_
              refine r_getF0 C dX11_moved_81 fg_X11_21 (by decide) ?_
              refine r_callV C (st := []) (As := [.ref (cF Θ 2)]) (d := 0) (j := 3) dX11_moved_84 ml_X11_213 vw_X8_gather ⟨_, _, _, _, rfl, rfl⟩ (dm0 (by decide)) (fun r15 e => c_p_Ranks_gather Θ.1.2.1 (cW Θ) (cAd Θ) (cN Θ) r7.2 r15 e) rfl rfl (Nat.le_of_ble_eq_true rfl) ⟨rfl, rfl, by decide, by decide⟩ (fun r15 h16 => ?_)
              refine r_aload_n C dX11_moved_87 rfl ?_
              refine r_getF0 C dX11_moved_88 fg_X11_28 (by decide) ?_
              refine r_iload_n C dX11_moved_91 rfl ?_
              refine r_aload C dX11_moved_92 rfl ?_
              refine r_iload C dX11_moved_94 rfl ?_
              refine r_callV C (st := []) (As := [.int a3, .ref (cAd Θ 3 q3), .int a5]) (d := 0) (j := 3) dX11_moved_96 ml_X11_322 vw_X8_movedBy ⟨_, _, _, _, rfl, rfl⟩ (dm0 (by decide)) (fun r17 e => c_p_Ranks_movedBy Θ.1.2.1 (cW Θ) (cAd Θ) (cN Θ) r15 a3 q3 a5 h4 r17 e) rfl rfl (Nat.le_of_ble_eq_true rfl) ⟨rfl, rfl, by decide, by decide⟩ (fun r17 h18 => ?_)
              exact r_iret C dX11_moved_99 rfl rfl trivial
            · refine r_aload_n C dX11_moved_69 rfl ?_
              refine r_bipush C (-6 : Int32) dX11_moved_70 (by decide) ?_
              refine r_callV C (st := []) (As := [.int (-6 : Int32)]) (d := 0) (j := 0) dX11_moved_72 ml_X11_64 vw_X11_refuse ⟨_, _, _, _, rfl, rfl⟩ (dm0 (by decide)) (fun r19 e => c_p_PE_refuse Θ.1.2.1 (cW Θ) (cAd Θ) (cN Θ) r7.2 (-6 : Int32) r19 e) rfl rfl (Nat.le_of_ble_eq_true rfl) ⟨rfl, rfl, by decide, by decide⟩ (fun r19 h20 => ?_)
              exact r_iret C dX11_moved_75 rfl rfl trivial
        · refine r_aload_n C dX11_moved_43 rfl ?_
          refine r_bipush C (-4 : Int32) dX11_moved_44 (by decide) ?_
          refine r_callV C (st := []) (As := [.int (-4 : Int32)]) (d := 0) (j := 0) dX11_moved_46 ml_X11_64 vw_X11_refuse ⟨_, _, _, _, rfl, rfl⟩ (dm0 (by decide)) (fun r21 e => c_p_PE_refuse Θ.1.2.1 (cW Θ) (cAd Θ) (cN Θ) r7.2 (-4 : Int32) r21 e) rfl rfl (Nat.le_of_ble_eq_true rfl) ⟨rfl, rfl, by decide, by decide⟩ (fun r21 h22 => ?_)
          exact r_iret C dX11_moved_49 rfl rfl trivial
    · refine r_aload_n C dX11_moved_28 rfl ?_
      refine r_iconst C (-1 : Int32) dX11_moved_29 (by decide) ?_
      refine r_callV C (st := []) (As := [.int (-1 : Int32)]) (d := 0) (j := 0) dX11_moved_30 ml_X11_64 vw_X11_refuse ⟨_, _, _, _, rfl, rfl⟩ (dm0 (by decide)) (fun r23 e => c_p_PE_refuse Θ.1.2.1 (cW Θ) (cAd Θ) (cN Θ) r7.2 (-1 : Int32) r23 e) rfl rfl (Nat.le_of_ble_eq_true rfl) ⟨rfl, rfl, by decide, by decide⟩ (fun r23 h24 => ?_)
      exact r_iret C dX11_moved_33 rfl rfl trivial
theorem c_p_PE_moved (l : Launch) (ω : Wd) (ad : Nat → Nat → Nat) (N : Nat → Nat) (σ : St) (a1 : Int32) (a2 : Int32) (a3 : Int32) (a4 : Int32) (a5 : Int32) : ∀ r : Int32 × St, p_PE_moved σ a1 a2 a3 a4 a5 = some r → Ct l yX11_moved cX11_moved 7 (some .int) ({ frames := 6, cells := 0, slots := 0, locals := 137 } : Room) LC ω ad N [.ref (ω.2.1 0), .int a1, .int a2, .int a3, .int a4, .int a5] σ (some (.int r.1)) r.2 (True) :=
  ct_of (o := fun r : Int32 × St => (some (.int r.1))) (s' := fun r => r.2) (P := fun r => True) [some (.ref (ω.2.1 0)), some (.int a1), some (.int a2), some (.int a3), some (.int a4), some (.int a5), none] (by decide) rfl (Nat.le_of_ble_eq_true rfl) (fun Γ C _ _ => w_p_PE_moved (Γ, ω, 7, ad, N, 0, 0) σ a1 a2 a3 a4 a5 C)
theorem vw_X3_firstToReturn : VW yX3_firstToReturn cX3_firstToReturn 5 (some (.object "PostsEnd$Person")) 1 := ⟨⟨(in_wt 81 (by decide +kernel) (by decide +kernel)), (in_wt 1193 (by decide +kernel) (by decide +kernel)), by decide +kernel⟩, (in_wt 1191 (by decide +kernel) (by decide +kernel)), (in_wt 1192 (by decide +kernel) (by decide +kernel))⟩
theorem fg_X11_330 (j : Nat) : FG LC RX11 330 2 j 0 (0, 0) := ⟨_, _, _, _, _, rfl, rfl, rfl, by decide, uw_X5, (in_wt 528 (by decide +kernel) (by decide +kernel))⟩
theorem ml_X11_326 : Cond.methodLink RX11 326 yX3_firstToReturn ∈ wt := in_wt 1190 (by decide +kernel) (by decide +kernel)
/-- PostsEnd.public int back(int) -/
def p_PE_back (σ : St) (a1 : Int32) : Option (Int32 × St) := (Option.bind (p_Firm_postAt σ a1) fun r1 => (Option.elim r1 ((Option.bind (p_PE_refuse σ (-1 : Int32)) fun r5 => some (r5.1, r5.2))) fun q3 => (Option.bind (p_Post_isVacant σ q3) fun r7 => (if r7 = 0 then (Option.bind (p_PE_refuse σ (-3 : Int32)) fun r13 => some (r13.1, r13.2)) else (Option.bind (p_Firm_firstToReturn σ q3) fun r9 => (Option.elim r9 (some ((-9 : Int32), σ)) fun q11 => some (σ.1 2 q11 0, σ)))))))
set_option maxRecDepth 20000 in
set_option maxHeartbeats 4000000 in
theorem w_p_PE_back (Θ : TT) (σ : St) (a1 : Int32) (C : CX Θ cX11_back RX11 (some .int) ({ frames := 4, cells := 0, slots := 0, locals := 90 } : Room) 4) : WA LC Θ (fun r : Int32 × St => Qm LC Θ (some (.int r.1)) r.2 (True)) 0 [some (.ref (cF Θ 0)), some (.int a1), none, none] [] σ (p_PE_back σ a1) := by
  unfold p_PE_back
  refine r_aload_n C dX11_back_0 rfl ?_
  refine r_getF0 C dX11_back_1 fg_X11_10 (by decide) ?_
  refine r_iload_n C dX11_back_4 rfl ?_
  refine r_callV C (st := []) (As := [.int a1]) (d := 0) (j := 1) dX11_back_5 ml_X11_94 vw_X3_postAt ⟨_, _, _, _, rfl, rfl⟩ (dm0 (by decide)) (fun r1 e => c_p_Firm_postAt Θ.1.2.1 (cW Θ) (cAd Θ) (cN Θ) σ a1 r1 e) rfl rfl (Nat.le_of_ble_eq_true rfl) ⟨rfl, rfl, by decide, by decide⟩ (fun r1 h2 => ?_)
  refine r_astore_n C (x := Option.map (cAd Θ 1) r1) [some (.ref (cF Θ 0)), some (.int a1), some (va_rf (Option.map (cAd Θ 1) r1)), none] dX11_back_8 rfl (by decide) rfl ?_
  refine r_aload_nQ C (x := Option.map (cAd Θ 1) r1) dX11_back_9 rfl ?_
  rcases r1 with _ | q3
  · refine r_ifnonnullN C dX11_back_10 ?_
    refine r_aload_n C dX11_back_13 rfl ?_
    refine r_iconst C (-1 : Int32) dX11_back_14 (by decide) ?_
    refine r_callV C (st := []) (As := [.int (-1 : Int32)]) (d := 0) (j := 0) dX11_back_15 ml_X11_64 vw_X11_refuse ⟨_, _, _, _, rfl, rfl⟩ (dm0 (by decide)) (fun r5 e => c_p_PE_refuse Θ.1.2.1 (cW Θ) (cAd Θ) (cN Θ) σ (-1 : Int32) r5 e) rfl rfl (Nat.le_of_ble_eq_true rfl) ⟨rfl, rfl, by decide, by decide⟩ (fun r5 h6 => ?_)
    exact r_iret C dX11_back_18 rfl rfl trivial
  · have h4 := h2 q3 rfl
    refine r_ifnonnullS C 19 dX11_back_10 (by decide) ?_
    refine r_aload_n C dX11_back_19 rfl ?_
    refine r_callV C (st := []) (As := []) (d := 1) (j := q3) dX11_back_20 ml_X11_115 vw_X7_isVacant ⟨_, _, _, _, rfl, rfl⟩ (dmk (by decide) (by decide) h4) (fun r7 e => c_p_Post_isVacant Θ.1.2.1 (cW Θ) (cAd Θ) (cN Θ) σ q3 h4 r7 e) rfl rfl (Nat.le_of_ble_eq_true rfl) ⟨rfl, rfl, by decide, by decide⟩ (fun r7 h8 => ?_)
    refine r_if_ne C 33 dX11_back_23 (by decide) ?_ ?_
    · refine r_aload_n C dX11_back_33 rfl ?_
      refine r_getF0 C dX11_back_34 fg_X11_10 (by decide) ?_
      refine r_aload_n C dX11_back_37 rfl ?_
      refine r_callV C (st := []) (As := [.ref (cAd Θ 1 q3)]) (d := 0) (j := 1) dX11_back_38 ml_X11_326 vw_X3_firstToReturn ⟨_, _, _, _, rfl, rfl⟩ (dm0 (by decide)) (fun r9 e => c_p_Firm_firstToReturn Θ.1.2.1 (cW Θ) (cAd Θ) (cN Θ) σ q3 h4 r9 e) rfl rfl (Nat.le_of_ble_eq_true rfl) ⟨rfl, rfl, by decide, by decide⟩ (fun r9 h10 => ?_)
      refine r_astore_n C (x := Option.map (cAd Θ 2) r9) [some (.ref (cF Θ 0)), some (.int a1), some (.ref (cAd Θ 1 q3)), some (va_rf (Option.map (cAd Θ 2) r9))] dX11_back_41 rfl (by decide) rfl ?_
      refine r_aload_nQ C (x := Option.map (cAd Θ 2) r9) dX11_back_42 rfl ?_
      rcases r9 with _ | q11
      · refine r_ifnonnullN C dX11_back_43 ?_
        refine r_bipush C (-9 : Int32) dX11_back_46 (by decide) ?_
        refine r_goto C 55 dX11_back_48 (by decide) ?_
        exact r_iret C dX11_back_55 rfl rfl trivial
      · have h12 := h10 q11 rfl
        refine r_ifnonnullS C 51 dX11_back_43 (by decide) ?_
        refine r_aload_n C dX11_back_51 rfl ?_
        refine r_getI C dX11_back_52 (fg_X11_330 _) (by decide) h12 ?_
        exact r_iret C dX11_back_55 rfl rfl trivial
    · refine r_aload_n C dX11_back_26 rfl ?_
      refine r_bipush C (-3 : Int32) dX11_back_27 (by decide) ?_
      refine r_callV C (st := []) (As := [.int (-3 : Int32)]) (d := 0) (j := 0) dX11_back_29 ml_X11_64 vw_X11_refuse ⟨_, _, _, _, rfl, rfl⟩ (dm0 (by decide)) (fun r13 e => c_p_PE_refuse Θ.1.2.1 (cW Θ) (cAd Θ) (cN Θ) σ (-3 : Int32) r13 e) rfl rfl (Nat.le_of_ble_eq_true rfl) ⟨rfl, rfl, by decide, by decide⟩ (fun r13 h14 => ?_)
      exact r_iret C dX11_back_32 rfl rfl trivial
theorem c_p_PE_back (l : Launch) (ω : Wd) (ad : Nat → Nat → Nat) (N : Nat → Nat) (σ : St) (a1 : Int32) : ∀ r : Int32 × St, p_PE_back σ a1 = some r → Ct l yX11_back cX11_back 4 (some .int) ({ frames := 4, cells := 0, slots := 0, locals := 90 } : Room) LC ω ad N [.ref (ω.2.1 0), .int a1] σ (some (.int r.1)) r.2 (True) :=
  ct_of (o := fun r : Int32 × St => (some (.int r.1))) (s' := fun r => r.2) (P := fun r => True) [some (.ref (ω.2.1 0)), some (.int a1), none, none] (by decide) rfl (Nat.le_of_ble_eq_true rfl) (fun Γ C _ _ => w_p_PE_back (Γ, ω, 4, ad, N, 0, 0) σ a1 C)
/-- PostsEnd.private int refusalsOf(int) -/
def p_PE_refusalsOf (σ : St) (a1 : Int32) : Option Int32 := (if a1 < (1 : Int32) then some (-9 : Int32) else (if (6 : Int32) < a1 then some (-9 : Int32) else (Option.bind (ix 7 a1) fun i1 => some (σ.1 0 8 i1))))
set_option maxRecDepth 20000 in
set_option maxHeartbeats 4000000 in
theorem w_p_PE_refusalsOf (Θ : TT) (σ : St) (a1 : Int32) (C : CX Θ cX11_refusalsOf RX11 (some .int) ({ frames := 0, cells := 0, slots := 0, locals := 0 } : Room) 2) : WA LC Θ (fun r : Int32 => Qm LC Θ (some (.int r)) σ (True)) 0 [some (.ref (cF Θ 0)), some (.int a1)] [] σ (p_PE_refusalsOf σ a1) := by
  unfold p_PE_refusalsOf
  refine r_iload_n C dX11_refusalsOf_0 rfl ?_
  refine r_iconst C (1 : Int32) dX11_refusalsOf_1 (by decide) ?_
  refine r_icmp_lt C 20 dX11_refusalsOf_2 (by decide) ?_ ?_
  · refine r_bipush C (-9 : Int32) dX11_refusalsOf_20 (by decide) ?_
    exact r_iret C dX11_refusalsOf_22 rfl rfl trivial
  · refine r_iload_n C dX11_refusalsOf_5 rfl ?_
    refine r_bipush C (6 : Int32) dX11_refusalsOf_6 (by decide) ?_
    refine r_icmp_gt C 20 dX11_refusalsOf_8 (by decide) ?_ ?_
    · refine r_bipush C (-9 : Int32) dX11_refusalsOf_20 (by decide) ?_
      exact r_iret C dX11_refusalsOf_22 rfl rfl trivial
    · refine r_aload_n C dX11_refusalsOf_11 rfl ?_
      refine r_getF0 C dX11_refusalsOf_12 fg_X11_60 (by decide) ?_
      refine r_iload_n C dX11_refusalsOf_15 rfl ?_
      refine r_iald (α := Unit) C dX11_refusalsOf_16 ag_LC_8 (fun i1 => ?_)
      refine r_goto C 22 dX11_refusalsOf_17 (by decide) ?_
      exact r_iret C dX11_refusalsOf_22 rfl rfl trivial
theorem c_p_PE_refusalsOf (l : Launch) (ω : Wd) (ad : Nat → Nat → Nat) (N : Nat → Nat) (σ : St) (a1 : Int32) : ∀ r : Int32, p_PE_refusalsOf σ a1 = some r → Ct l yX11_refusalsOf cX11_refusalsOf 2 (some .int) ({ frames := 0, cells := 0, slots := 0, locals := 0 } : Room) LC ω ad N [.ref (ω.2.1 0), .int a1] σ (some (.int r)) σ (True) :=
  ct_of (o := fun r : Int32 => (some (.int r))) (s' := fun r => σ) (P := fun r => True) [some (.ref (ω.2.1 0)), some (.int a1)] (by decide) rfl (Nat.le_of_ble_eq_true rfl) (fun Γ C _ _ => w_p_PE_refusalsOf (Γ, ω, 2, ad, N, 0, 0) σ a1 C)
theorem vw_X3_openPosts : VW yX3_openPosts cX3_openPosts 4 (some .int) 0 := ⟨⟨(in_wt 81 (by decide +kernel) (by decide +kernel)), (in_wt 1208 (by decide +kernel) (by decide +kernel)), by decide +kernel⟩, (in_wt 1206 (by decide +kernel) (by decide +kernel)), (in_wt 1207 (by decide +kernel) (by decide +kernel))⟩
theorem vw_X3_peopleHere : VW yX3_peopleHere cX3_peopleHere 4 (some .int) 0 := ⟨⟨(in_wt 81 (by decide +kernel) (by decide +kernel)), (in_wt 1218 (by decide +kernel) (by decide +kernel)), by decide +kernel⟩, (in_wt 1216 (by decide +kernel) (by decide +kernel)), (in_wt 1217 (by decide +kernel) (by decide +kernel))⟩
theorem vw_X3_vacantPosts : VW yX3_vacantPosts cX3_vacantPosts 4 (some .int) 0 := ⟨⟨(in_wt 81 (by decide +kernel) (by decide +kernel)), (in_wt 1213 (by decide +kernel) (by decide +kernel)), by decide +kernel⟩, (in_wt 1211 (by decide +kernel) (by decide +kernel)), (in_wt 1212 (by decide +kernel) (by decide +kernel))⟩
theorem vw_X3_volunteersHere : VW yX3_volunteersHere cX3_volunteersHere 4 (some .int) 0 := ⟨⟨(in_wt 81 (by decide +kernel) (by decide +kernel)), (in_wt 1222 (by decide +kernel) (by decide +kernel)), by decide +kernel⟩, (in_wt 1220 (by decide +kernel) (by decide +kernel)), (in_wt 1221 (by decide +kernel) (by decide +kernel))⟩
theorem vw_X11_refusalsOf : VW yX11_refusalsOf cX11_refusalsOf 2 (some .int) 1 := ⟨⟨(in_wt 80 (by decide +kernel) (by decide +kernel)), (in_wt 1227 (by decide +kernel) (by decide +kernel)), by decide +kernel⟩, (in_wt 1226 (by decide +kernel) (by decide +kernel)), (in_wt 39 (by decide +kernel) (by decide +kernel))⟩
theorem ml_X11_331 : Cond.methodLink RX11 331 yX3_openPosts ∈ wt := in_wt 1205 (by decide +kernel) (by decide +kernel)
theorem ml_X11_334 : Cond.methodLink RX11 334 yX3_vacantPosts ∈ wt := in_wt 1210 (by decide +kernel) (by decide +kernel)
theorem ml_X11_337 : Cond.methodLink RX11 337 yX3_peopleHere ∈ wt := in_wt 1215 (by decide +kernel) (by decide +kernel)
theorem ml_X11_340 : Cond.methodLink RX11 340 yX3_volunteersHere ∈ wt := in_wt 1219 (by decide +kernel) (by decide +kernel)
theorem ml_X11_343 : Cond.methodLink RX11 343 yX11_refusalsOf ∈ wt := in_wt 1224 (by decide +kernel) (by decide +kernel)
/-- PostsEnd.public int count(int) -/
def p_PE_count (σ : St) (a1 : Int32) : Option Int32 := (if a1 = (0 : Int32) then some (σ.1 0 1 0) else (if a1 = (1 : Int32) then some (σ.1 0 1 1) else (if a1 = (2 : Int32) then some (σ.1 0 1 2) else (if a1 = (3 : Int32) then (Option.bind (p_Firm_openPosts σ) fun r5 => some r5) else (if a1 = (4 : Int32) then (Option.bind (p_Firm_vacantPosts σ) fun r8 => some r8) else (if a1 = (5 : Int32) then some (σ.1 0 1 3) else (if a1 = (6 : Int32) then (Option.bind (p_Firm_peopleHere σ) fun r12 => some r12) else (if a1 = (7 : Int32) then some (σ.1 0 1 4) else (if a1 = (8 : Int32) then some (σ.1 0 1 5) else (if a1 = (9 : Int32) then (Option.bind (p_Firm_volunteersHere σ) fun r17 => some r17) else (if a1 = (10 : Int32) then some (σ.1 0 6 7) else (Option.bind (p_PE_refusalsOf σ (a1 - (10 : Int32))) fun r20 => some r20))))))))))))
set_option maxRecDepth 20000 in
set_option maxHeartbeats 4000000 in
theorem w_p_PE_count (Θ : TT) (σ : St) (a1 : Int32) (C : CX Θ cX11_count RX11 (some .int) ({ frames := 3, cells := 0, slots := 0, locals := 63 } : Room) 2) : WA LC Θ (fun r : Int32 => Qm LC Θ (some (.int r)) σ (True)) 0 [some (.ref (cF Θ 0)), some (.int a1)] [] σ (p_PE_count σ a1) := by
  unfold p_PE_count
  refine r_iload_n C dX11_count_0 rfl ?_
  refine WA.cas (v := (0 : Int32)) ?_ (fun h1 => ?_)
  · refine r_tabIn C 60 dX11_count_1 (by decide) (by decide) rfl (by decide) ?_
    refine r_aload_n C dX11_count_60 rfl ?_
    refine r_getF0 C dX11_count_61 fg_X11_10 (by decide) ?_
    refine r_getI0 C dX11_count_64 fg_X11_68 (by decide) ?_
    exact r_iret C dX11_count_67 rfl rfl trivial
  refine WA.cas (v := (1 : Int32)) ?_ (fun h2 => ?_)
  · refine r_tabIn C 68 dX11_count_1 (by decide) (by decide) rfl (by decide) ?_
    refine r_aload_n C dX11_count_68 rfl ?_
    refine r_getF0 C dX11_count_69 fg_X11_10 (by decide) ?_
    refine r_getI0 C dX11_count_72 fg_X11_76 (by decide) ?_
    exact r_iret C dX11_count_75 rfl rfl trivial
  refine WA.cas (v := (2 : Int32)) ?_ (fun h3 => ?_)
  · refine r_tabIn C 76 dX11_count_1 (by decide) (by decide) rfl (by decide) ?_
    refine r_aload_n C dX11_count_76 rfl ?_
    refine r_getF0 C dX11_count_77 fg_X11_10 (by decide) ?_
    refine r_getI0 C dX11_count_80 fg_X11_82 (by decide) ?_
    exact r_iret C dX11_count_83 rfl rfl trivial
  refine WA.cas (v := (3 : Int32)) ?_ (fun h4 => ?_)
  · refine r_tabIn C 84 dX11_count_1 (by decide) (by decide) rfl (by decide) ?_
    refine r_aload_n C dX11_count_84 rfl ?_
    refine r_getF0 C dX11_count_85 fg_X11_10 (by decide) ?_
    refine r_callV C (st := []) (As := []) (d := 0) (j := 1) dX11_count_88 ml_X11_331 vw_X3_openPosts ⟨_, _, _, _, rfl, rfl⟩ (dm0 (by decide)) (fun r5 e => c_p_Firm_openPosts Θ.1.2.1 (cW Θ) (cAd Θ) (cN Θ) σ r5 e) rfl rfl (Nat.le_of_ble_eq_true rfl) ⟨rfl, rfl, by decide, by decide⟩ (fun r5 h6 => ?_)
    exact r_iret C dX11_count_91 rfl rfl trivial
  refine WA.cas (v := (4 : Int32)) ?_ (fun h7 => ?_)
  · refine r_tabIn C 92 dX11_count_1 (by decide) (by decide) rfl (by decide) ?_
    refine r_aload_n C dX11_count_92 rfl ?_
    refine r_getF0 C dX11_count_93 fg_X11_10 (by decide) ?_
    refine r_callV C (st := []) (As := []) (d := 0) (j := 1) dX11_count_96 ml_X11_334 vw_X3_vacantPosts ⟨_, _, _, _, rfl, rfl⟩ (dm0 (by decide)) (fun r8 e => c_p_Firm_vacantPosts Θ.1.2.1 (cW Θ) (cAd Θ) (cN Θ) σ r8 e) rfl rfl (Nat.le_of_ble_eq_true rfl) ⟨rfl, rfl, by decide, by decide⟩ (fun r8 h9 => ?_)
    exact r_iret C dX11_count_99 rfl rfl trivial
  refine WA.cas (v := (5 : Int32)) ?_ (fun h10 => ?_)
  · refine r_tabIn C 100 dX11_count_1 (by decide) (by decide) rfl (by decide) ?_
    refine r_aload_n C dX11_count_100 rfl ?_
    refine r_getF0 C dX11_count_101 fg_X11_10 (by decide) ?_
    refine r_getI0 C dX11_count_104 fg_X11_118 (by decide) ?_
    exact r_iret C dX11_count_107 rfl rfl trivial
  refine WA.cas (v := (6 : Int32)) ?_ (fun h11 => ?_)
  · refine r_tabIn C 108 dX11_count_1 (by decide) (by decide) rfl (by decide) ?_
    refine r_aload_n C dX11_count_108 rfl ?_
    refine r_getF0 C dX11_count_109 fg_X11_10 (by decide) ?_
    refine r_callV C (st := []) (As := []) (d := 0) (j := 1) dX11_count_112 ml_X11_337 vw_X3_peopleHere ⟨_, _, _, _, rfl, rfl⟩ (dm0 (by decide)) (fun r12 e => c_p_Firm_peopleHere Θ.1.2.1 (cW Θ) (cAd Θ) (cN Θ) σ r12 e) rfl rfl (Nat.le_of_ble_eq_true rfl) ⟨rfl, rfl, by decide, by decide⟩ (fun r12 h13 => ?_)
    exact r_iret C dX11_count_115 rfl rfl trivial
  refine WA.cas (v := (7 : Int32)) ?_ (fun h14 => ?_)
  · refine r_tabIn C 116 dX11_count_1 (by decide) (by decide) rfl (by decide) ?_
    refine r_aload_n C dX11_count_116 rfl ?_
    refine r_getF0 C dX11_count_117 fg_X11_10 (by decide) ?_
    refine r_getI0 C dX11_count_120 fg_X11_167 (by decide) ?_
    exact r_iret C dX11_count_123 rfl rfl trivial
  refine WA.cas (v := (8 : Int32)) ?_ (fun h15 => ?_)
  · refine r_tabIn C 124 dX11_count_1 (by decide) (by decide) rfl (by decide) ?_
    refine r_aload_n C dX11_count_124 rfl ?_
    refine r_getF0 C dX11_count_125 fg_X11_10 (by decide) ?_
    refine r_getI0 C dX11_count_128 fg_X11_183 (by decide) ?_
    exact r_iret C dX11_count_131 rfl rfl trivial
  refine WA.cas (v := (9 : Int32)) ?_ (fun h16 => ?_)
  · refine r_tabIn C 132 dX11_count_1 (by decide) (by decide) rfl (by decide) ?_
    refine r_aload_n C dX11_count_132 rfl ?_
    refine r_getF0 C dX11_count_133 fg_X11_10 (by decide) ?_
    refine r_callV C (st := []) (As := []) (d := 0) (j := 1) dX11_count_136 ml_X11_340 vw_X3_volunteersHere ⟨_, _, _, _, rfl, rfl⟩ (dm0 (by decide)) (fun r17 e => c_p_Firm_volunteersHere Θ.1.2.1 (cW Θ) (cAd Θ) (cN Θ) σ r17 e) rfl rfl (Nat.le_of_ble_eq_true rfl) ⟨rfl, rfl, by decide, by decide⟩ (fun r17 h18 => ?_)
    exact r_iret C dX11_count_139 rfl rfl trivial
  refine WA.cas (v := (10 : Int32)) ?_ (fun h19 => ?_)
  · refine r_tabIn C 140 dX11_count_1 (by decide) (by decide) rfl (by decide) ?_
    refine r_aload_n C dX11_count_140 rfl ?_
    refine r_getF0 C dX11_count_141 fg_X11_49 (by decide) ?_
    refine r_getI0 C dX11_count_144 fg_X11_265 (by decide) ?_
    exact r_iret C dX11_count_147 rfl rfl trivial
  have h1 := tq_ne h1 (z := 0) (by decide)
  have h2 := tq_ne h2 (z := 1) (by decide)
  have h3 := tq_ne h3 (z := 2) (by decide)
  have h4 := tq_ne h4 (z := 3) (by decide)
  have h7 := tq_ne h7 (z := 4) (by decide)
  have h10 := tq_ne h10 (z := 5) (by decide)
  have h11 := tq_ne h11 (z := 6) (by decide)
  have h14 := tq_ne h14 (z := 7) (by decide)
  have h15 := tq_ne h15 (z := 8) (by decide)
  have h16 := tq_ne h16 (z := 9) (by decide)
  have h19 := tq_ne h19 (z := 10) (by decide)
  refine r_tabOut C 148 dX11_count_1 (by omega) (by decide) ?_
  refine r_aload_n C dX11_count_148 rfl ?_
  refine r_iload_n C dX11_count_149 rfl ?_
  refine r_bipush C (10 : Int32) dX11_count_150 (by decide) ?_
  refine r_isub C dX11_count_152 ?_
  refine r_callV C (st := []) (As := [.int (a1 - (10 : Int32))]) (d := 0) (j := 0) dX11_count_153 ml_X11_343 vw_X11_refusalsOf ⟨_, _, _, _, rfl, rfl⟩ (dm0 (by decide)) (fun r20 e => c_p_PE_refusalsOf Θ.1.2.1 (cW Θ) (cAd Θ) (cN Θ) σ (a1 - (10 : Int32)) r20 e) rfl rfl (Nat.le_of_ble_eq_true rfl) ⟨rfl, rfl, by decide, by decide⟩ (fun r20 h21 => ?_)
  exact r_iret C dX11_count_156 rfl rfl trivial
theorem c_p_PE_count (l : Launch) (ω : Wd) (ad : Nat → Nat → Nat) (N : Nat → Nat) (σ : St) (a1 : Int32) : ∀ r : Int32, p_PE_count σ a1 = some r → Ct l yX11_count cX11_count 2 (some .int) ({ frames := 3, cells := 0, slots := 0, locals := 63 } : Room) LC ω ad N [.ref (ω.2.1 0), .int a1] σ (some (.int r)) σ (True) :=
  ct_of (o := fun r : Int32 => (some (.int r))) (s' := fun r => σ) (P := fun r => True) [some (.ref (ω.2.1 0)), some (.int a1)] (by decide) rfl (Nat.le_of_ble_eq_true rfl) (fun Γ C _ _ => w_p_PE_count (Γ, ω, 2, ad, N, 0, 0) σ a1 C)
