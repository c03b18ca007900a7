/-- PostsEndModel.private static int wrongWeeks(int, int, int, int) -/
def m_wrongWeeks (a0 : Int32) (a1 : Int32) (a2 : Int32) (a3 : Int32) : Option Int32 := (if a0 < (1 : Int32) then some (-4 : Int32) else (if a1 < (1 : Int32) then some (-4 : Int32) else (if a2 < (1 : Int32) then some (-4 : Int32) else (if a3 < (1 : Int32) then some (-4 : Int32) else (if (200 : Int32) < a0 then some (-6 : Int32) else (if (6 : Int32) < a1 then some (-6 : Int32) else (if (50 : Int32) < a2 then some (-6 : Int32) else (if (9999 : Int32) < a3 then some (-6 : Int32) else some (0 : Int32)))))))))
set_option maxRecDepth 20000 in
set_option maxHeartbeats 4000000 in
theorem w_m_wrongWeeks (Θ : TT) (σ : St) (a0 : Int32) (a1 : Int32) (a2 : Int32) (a3 : Int32) (C : CX Θ cX12_wrongWeeks RX12 (some .int) ({ frames := 0, cells := 0, slots := 0, locals := 0 } : Room) 4) : WA LM Θ (fun r : Int32 => Qm LM Θ (some (.int r)) σ (True)) 0 [some (.int a0), some (.int a1), some (.int a2), some (.int a3)] [] σ (m_wrongWeeks a0 a1 a2 a3) := by
  unfold m_wrongWeeks
  refine r_iload_n C dX12_wrongWeeks_0 rfl ?_
  refine r_iconst C (1 : Int32) dX12_wrongWeeks_1 (by decide) ?_
  refine r_icmp_lt C 20 dX12_wrongWeeks_2 (by decide) ?_ ?_
  · refine r_bipush C (-4 : Int32) dX12_wrongWeeks_20 (by decide) ?_
    refine r_goto C 57 dX12_wrongWeeks_22 (by decide) ?_
    exact r_iret C dX12_wrongWeeks_57 rfl rfl trivial
  · refine r_iload_n C dX12_wrongWeeks_5 rfl ?_
    refine r_iconst C (1 : Int32) dX12_wrongWeeks_6 (by decide) ?_
    refine r_icmp_lt C 20 dX12_wrongWeeks_7 (by decide) ?_ ?_
    · refine r_bipush C (-4 : Int32) dX12_wrongWeeks_20 (by decide) ?_
      refine r_goto C 57 dX12_wrongWeeks_22 (by decide) ?_
      exact r_iret C dX12_wrongWeeks_57 rfl rfl trivial
    · refine r_iload_n C dX12_wrongWeeks_10 rfl ?_
      refine r_iconst C (1 : Int32) dX12_wrongWeeks_11 (by decide) ?_
      refine r_icmp_lt C 20 dX12_wrongWeeks_12 (by decide) ?_ ?_
      · refine r_bipush C (-4 : Int32) dX12_wrongWeeks_20 (by decide) ?_
        refine r_goto C 57 dX12_wrongWeeks_22 (by decide) ?_
        exact r_iret C dX12_wrongWeeks_57 rfl rfl trivial
      · refine r_iload_n C dX12_wrongWeeks_15 rfl ?_
        refine r_iconst C (1 : Int32) dX12_wrongWeeks_16 (by decide) ?_
        refine r_icmp_ge C 25 dX12_wrongWeeks_17 (by decide) ?_ ?_
        · refine r_iload_n C dX12_wrongWeeks_25 rfl ?_
          refine r_sipush C (200 : Int32) dX12_wrongWeeks_26 (by decide) ?_
          refine r_icmp_gt C 51 dX12_wrongWeeks_29 (by decide) ?_ ?_
          · refine r_bipush C (-6 : Int32) dX12_wrongWeeks_51 (by decide) ?_
            refine r_goto C 57 dX12_wrongWeeks_53 (by decide) ?_
            exact r_iret C dX12_wrongWeeks_57 rfl rfl trivial
          · refine r_iload_n C dX12_wrongWeeks_32 rfl ?_
            refine r_bipush C (6 : Int32) dX12_wrongWeeks_33 (by decide) ?_
            refine r_icmp_gt C 51 dX12_wrongWeeks_35 (by decide) ?_ ?_
            · refine r_bipush C (-6 : Int32) dX12_wrongWeeks_51 (by decide) ?_
              refine r_goto C 57 dX12_wrongWeeks_53 (by decide) ?_
              exact r_iret C dX12_wrongWeeks_57 rfl rfl trivial
            · refine r_iload_n C dX12_wrongWeeks_38 rfl ?_
              refine r_bipush C (50 : Int32) dX12_wrongWeeks_39 (by decide) ?_
              refine r_icmp_gt C 51 dX12_wrongWeeks_41 (by decide) ?_ ?_
              · refine r_bipush C (-6 : Int32) dX12_wrongWeeks_51 (by decide) ?_
                refine r_goto C 57 dX12_wrongWeeks_53 (by decide) ?_
                exact r_iret C dX12_wrongWeeks_57 rfl rfl trivial
              · refine r_iload_n C dX12_wrongWeeks_44 rfl ?_
                refine r_sipush C (9999 : Int32) dX12_wrongWeeks_45 (by decide) ?_
                refine r_icmp_le C 56 dX12_wrongWeeks_48 (by decide) ?_ ?_
                · refine r_iconst C (0 : Int32) dX12_wrongWeeks_56 (by decide) ?_
                  exact r_iret C dX12_wrongWeeks_57 rfl rfl trivial
                · refine r_bipush C (-6 : Int32) dX12_wrongWeeks_51 (by decide) ?_
                  refine r_goto C 57 dX12_wrongWeeks_53 (by decide) ?_
                  exact r_iret C dX12_wrongWeeks_57 rfl rfl trivial
        · refine r_bipush C (-4 : Int32) dX12_wrongWeeks_20 (by decide) ?_
          refine r_goto C 57 dX12_wrongWeeks_22 (by decide) ?_
          exact r_iret C dX12_wrongWeeks_57 rfl rfl trivial
theorem c_m_wrongWeeks (l : Launch) (ω : Wd) (ad : Nat → Nat → Nat) (N : Nat → Nat) (σ : St) (a0 : Int32) (a1 : Int32) (a2 : Int32) (a3 : Int32) : ∀ r : Int32, m_wrongWeeks a0 a1 a2 a3 = some r → Ct l yX12_wrongWeeks cX12_wrongWeeks 4 (some .int) ({ frames := 0, cells := 0, slots := 0, locals := 0 } : Room) LM ω ad N [.int a0, .int a1, .int a2, .int a3] σ (some (.int r)) σ (True) :=
  ct_of (o := fun r : Int32 => (some (.int r))) (s' := fun r => σ) (P := fun r => True) [some (.int a0), some (.int a1), some (.int a2), some (.int a3)] (by decide) rfl (Nat.le_of_ble_eq_true rfl) (fun Γ C _ _ => w_m_wrongWeeks (Γ, ω, 4, ad, N, 0, 0) σ a0 a1 a2 a3 C)
theorem vw_X12_findWeeks : VW yX12_findWeeks cX12_findWeeks 11 none 4 := ⟨⟨(in_wt 88 (by decide +kernel) (by decide +kernel)), (in_wt 1722 (by decide +kernel) (by decide +kernel)), by decide +kernel⟩, (in_wt 1721 (by decide +kernel) (by decide +kernel)), (in_wt 76 (by decide +kernel) (by decide +kernel))⟩
theorem sw_X12_wrongWeeks : SW yX12_wrongWeeks cX12_wrongWeeks 4 (some .int) 4 := ⟨⟨(in_wt 88 (by decide +kernel) (by decide +kernel)), (in_wt 1718 (by decide +kernel) (by decide +kernel)), by decide +kernel⟩, (in_wt 1717 (by decide +kernel) (by decide +kernel))⟩
theorem ml_X12_348 : Cond.methodLink RX12 348 yX12_wrongWeeks ∈ wt := in_wt 1716 (by decide +kernel) (by decide +kernel)
theorem ml_X12_352 : Cond.methodLink RX12 352 yX12_findWeeks ∈ wt := in_wt 1719 (by decide +kernel) (by decide +kernel)
/-- PostsEndModel.public int weeks(int, int, int, int, int) -/
def m_weeks (σ : St) (a1 : Int32) (a2 : Int32) (a3 : Int32) (a4 : Int32) (a5 : Int32) : Option (Int32 × St) := (Option.bind (m_in a1 (0 : Int32) (3 : Int32)) fun r1 => (if r1 = 0 then (Option.bind (m_refuse σ (-1 : Int32)) fun r10 => some (r10.1, r10.2)) else (Option.bind (m_wrongWeeks a2 a3 a4 a5) fun r3 => (if r3 < 0 then (Option.bind (m_refuse σ r3) fun r8 => some (r8.1, r8.2)) else (Option.bind (m_findWeeks σ a1 a2 a3 a4) fun r5 => (Option.bind (ix 1407 (0 : Int32)) fun i7 => some ((r5.1 0 43 i7) * a5, r5)))))))
set_option maxRecDepth 20000 in
set_option maxHeartbeats 4000000 in
theorem w_m_weeks (Θ : TT) (σ : St) (a1 : Int32) (a2 : Int32) (a3 : Int32) (a4 : Int32) (a5 : Int32) (C : CX Θ cX12_weeks RX12 (some .int) ({ frames := 3, cells := 0, slots := 0, locals := 78 } : Room) 7) : WA LM Θ (fun r : Int32 × St => Qm LM Θ (some (.int r.1)) r.2 (True)) 0 [some (.ref (cF Θ 0)), some (.int a1), some (.int a2), some (.int a3), some (.int a4), some (.int a5), none] [] σ (m_weeks σ a1 a2 a3 a4 a5) := by
  unfold m_weeks
  refine r_iload_n C dX12_weeks_0 rfl ?_
  refine r_iconst C (0 : Int32) dX12_weeks_1 (by decide) ?_
  refine r_iconst C (3 : Int32) dX12_weeks_2 (by decide) ?_
  refine r_callS C (st := []) (As := [.int a1, .int (0 : Int32), .int (3 : Int32)]) dX12_weeks_3 ml_X12_157 sw_X12_in (fun r1 e => c_m_in Θ.1.2.1 (cW Θ) (cAd Θ) (cN Θ) σ a1 (0 : Int32) (3 : Int32) r1 e) rfl rfl (Nat.le_of_ble_eq_true rfl) ⟨rfl, rfl, by decide, by decide⟩ (fun r1 h2 => ?_)
  refine r_if_ne C 15 dX12_weeks_6 (by decide) ?_ ?_
  · refine r_iload_n C dX12_weeks_15 rfl ?_
    refine r_iload_n C dX12_weeks_16 rfl ?_
    refine r_iload C dX12_weeks_17 rfl ?_
    refine r_iload C dX12_weeks_19 rfl ?_
    refine r_callS C (st := []) (As := [.int a2, .int a3, .int a4, .int a5]) dX12_weeks_21 ml_X12_348 sw_X12_wrongWeeks (fun r3 e => c_m_wrongWeeks Θ.1.2.1 (cW Θ) (cAd Θ) (cN Θ) σ a2 a3 a4 a5 r3 e) rfl rfl (Nat.le_of_ble_eq_true rfl) ⟨rfl, rfl, by decide, by decide⟩ (fun r3 h4 => ?_)
    refine r_istore C [some (.ref (cF Θ 0)), some (.int a1), some (.int a2), some (.int a3), some (.int a4), some (.int a5), some (.int r3)] dX12_weeks_24 rfl (by decide) rfl ?_
    refine r_iload C dX12_weeks_26 rfl ?_
    refine r_if_ge C 38 dX12_weeks_28 (by decide) ?_ ?_
    · refine r_aload_n C dX12_weeks_38 rfl ?_
      refine r_iload_n C dX12_weeks_39 rfl ?_
      refine r_iload_n C dX12_weeks_40 rfl ?_
      refine r_iload_n C dX12_weeks_41 rfl ?_
      refine r_iload C dX12_weeks_42 rfl ?_
      refine r_callV C (st := []) (As := [.int a1, .int a2, .int a3, .int a4]) (d := 0) (j := 0) dX12_weeks_44 ml_X12_352 vw_X12_findWeeks ⟨_, _, _, _, rfl, rfl⟩ (dm0 (by decide)) (fun r5 e => c_m_findWeeks Θ.1.2.1 (cW Θ) (cAd Θ) (cN Θ) σ a1 a2 a3 a4 r5 e) rfl rfl (Nat.le_of_ble_eq_true rfl) ⟨rfl, rfl, by decide, by decide⟩ (fun r5 h6 => ?_)
      refine r_aload_n C dX12_weeks_47 rfl ?_
      refine r_getF0 C dX12_weeks_48 fg_X12_143 (by decide) ?_
      refine r_iconst C (0 : Int32) dX12_weeks_51 (by decide) ?_
      refine r_iald (α := Unit) C dX12_weeks_52 ag_LM_43 (fun i7 => ?_)
      refine r_iload C dX12_weeks_53 rfl ?_
      refine r_imul C dX12_weeks_55 ?_
      exact r_iret C dX12_weeks_56 rfl rfl trivial
    · refine r_aload_n C dX12_weeks_31 rfl ?_
      refine r_iload C dX12_weeks_32 rfl ?_
      refine r_callV C (st := []) (As := [.int r3]) (d := 0) (j := 0) dX12_weeks_34 ml_X12_174 vw_X12_refuse ⟨_, _, _, _, rfl, rfl⟩ (dm0 (by decide)) (fun r8 e => c_m_refuse Θ.1.2.1 (cW Θ) (cAd Θ) (cN Θ) σ r3 r8 e) rfl rfl (Nat.le_of_ble_eq_true rfl) ⟨rfl, rfl, by decide, by decide⟩ (fun r8 h9 => ?_)
      exact r_iret C dX12_weeks_37 rfl rfl trivial
  · refine r_aload_n C dX12_weeks_9 rfl ?_
    refine r_iconst C (-1 : Int32) dX12_weeks_10 (by decide) ?_
    refine r_callV C (st := []) (As := [.int (-1 : Int32)]) (d := 0) (j := 0) dX12_weeks_11 ml_X12_174 vw_X12_refuse ⟨_, _, _, _, rfl, rfl⟩ (dm0 (by decide)) (fun r10 e => c_m_refuse Θ.1.2.1 (cW Θ) (cAd Θ) (cN Θ) σ (-1 : Int32) r10 e) rfl rfl (Nat.le_of_ble_eq_true rfl) ⟨rfl, rfl, by decide, by decide⟩ (fun r10 h11 => ?_)
    exact r_iret C dX12_weeks_14 rfl rfl trivial
theorem c_m_weeks (l : Launch) (ω : Wd) (ad : Nat → Nat → Nat) (N : Nat → Nat) (σ : St) (a1 : Int32) (a2 : Int32) (a3 : Int32) (a4 : Int32) (a5 : Int32) : ∀ r : Int32 × St, m_weeks σ a1 a2 a3 a4 a5 = some r → Ct l yX12_weeks cX12_weeks 7 (some .int) ({ frames := 3, cells := 0, slots := 0, locals := 78 } : Room) LM ω ad N [.ref (ω.2.1 0), .int a1, .int a2, .int a3, .int a4, .int a5] σ (some (.int r.1)) r.2 (True) :=
  ct_of (o := fun r : Int32 × St => (some (.int r.1))) (s' := fun r => r.2) (P := fun r => True) [some (.ref (ω.2.1 0)), some (.int a1), some (.int a2), some (.int a3), some (.int a4), some (.int a5), none] (by decide) rfl (Nat.le_of_ble_eq_true rfl) (fun Γ C _ _ => w_m_weeks (Γ, ω, 7, ad, N, 0, 0) σ a1 a2 a3 a4 a5 C)
/-- PostsEndModel.public int weekOf(int, int, int, int, int, int) -/
def m_weekOf (σ : St) (a1 : Int32) (a2 : Int32) (a3 : Int32) (a4 : Int32) (a5 : Int32) (a6 : Int32) : Option (Int32 × St) := (Option.bind (m_in a1 (0 : Int32) (3 : Int32)) fun r1 => (if r1 = 0 then (Option.bind (m_refuse σ (-1 : Int32)) fun r3 => some (r3.1, r3.2)) else (if a6 < 0 then (Option.bind (m_refuse σ (-1 : Int32)) fun r5 => some (r5.1, r5.2)) else (if a6 < a3 then (Option.bind (m_wrongWeeks a2 a3 a4 a5) fun r7 => (if r7 < 0 then (Option.bind (m_refuse σ r7) fun r34 => some (r34.1, r34.2)) else (Option.bind (m_findWeeks σ a1 a2 a3 a4) fun r9 => (Option.bind (itr0 (S := Int32 × Int32 × Int32) (E := Int32) (fun s11 => (if a6 < s11.2.2 then some (.inr s11.2.1) else (if a4 = 0 then none else (Option.bind (itr0 (S := Int32) (E := Int32) (fun s22 => (if s11.2.2 < a3 - (1 : Int32) then (if a4 = 0 then none else (Option.bind (m_weekCost r9 s11.2.2 a3 (s11.1 + s11.2.1) s22 a4 (a2 - a2 / a4 * a4)) fun r30 => (Option.bind (ix 1407 ((((201 : Int32) * (s11.2.2 + (1 : Int32))) + (s11.1 + s11.2.1)) + s22)) fun i32 => (Option.bind (ix 1407 (((201 : Int32) * s11.2.2) + (s11.1 + s11.2.1))) fun i33 => (if r30 + (r9.1 0 43 i32) = r9.1 0 43 i33 then some (.inr s22) else some (.inl (s22 + (-1 : Int32)))))))) else some (.inr s22))) FU ((a2 / a4) - (s11.1 + s11.2.1))) fun e27 => some (.inl (s11.1 + s11.2.1, e27, s11.2.2 + (1 : Int32))))))) FU ((0 : Int32), (0 : Int32), (0 : Int32))) fun e16 => (Option.bind (α := Int32) ((if a6 = a3 - (1 : Int32) then (if a4 = 0 then none else some (a2 - a2 / a4 * a4)) else some (0 : Int32))) fun t19 => some ((e16 * a4) + t19, r9)))))) else (Option.bind (m_refuse σ (-1 : Int32)) fun r36 => some (r36.1, r36.2))))))
set_option maxRecDepth 20000 in
set_option maxHeartbeats 4000000 in
theorem w_m_weekOf (Θ : TT) (σ : St) (a1 : Int32) (a2 : Int32) (a3 : Int32) (a4 : Int32) (a5 : Int32) (a6 : Int32) (C : CX Θ cX12_weekOf RX12 (some .int) ({ frames := 3, cells := 0, slots := 0, locals := 78 } : Room) 11) : WA LM Θ (fun r : Int32 × St => Qm LM Θ (some (.int r.1)) r.2 (True)) 0 [some (.ref (cF Θ 0)), some (.int a1), some (.int a2), some (.int a3), some (.int a4), some (.int a5), some (.int a6), none, none, none, none] [] σ (m_weekOf σ a1 a2 a3 a4 a5 a6) := by
  unfold m_weekOf
  refine r_iload_n C dX12_weekOf_0 rfl ?_
  refine r_iconst C (0 : Int32) dX12_weekOf_1 (by decide) ?_
  refine r_iconst C (3 : Int32) dX12_weekOf_2 (by decide) ?_
  refine r_callS C (st := []) (As := [.int a1, .int (0 : Int32), .int (3 : Int32)]) dX12_weekOf_3 ml_X12_157 sw_X12_in (fun r1 e => c_m_in Θ.1.2.1 (cW Θ) (cAd Θ) (cN Θ) σ a1 (0 : Int32) (3 : Int32) r1 e) rfl rfl (Nat.le_of_ble_eq_true rfl) ⟨rfl, rfl, by decide, by decide⟩ (fun r1 h2 => ?_)
  refine r_if_eq C 20 dX12_weekOf_6 (by decide) ?_ ?_
  · refine r_aload_n C dX12_weekOf_20 rfl ?_
    refine r_iconst C (-1 : Int32) dX12_weekOf_21 (by decide) ?_
    refine r_callV C (st := []) (As := [.int (-1 : Int32)]) (d := 0) (j := 0) dX12_weekOf_22 ml_X12_174 vw_X12_refuse ⟨_, _, _, _, rfl, rfl⟩ (dm0 (by decide)) (fun r3 e => c_m_refuse Θ.1.2.1 (cW Θ) (cAd Θ) (cN Θ) σ (-1 : Int32) r3 e) rfl rfl (Nat.le_of_ble_eq_true rfl) ⟨rfl, rfl, by decide, by decide⟩ (fun r3 h4 => ?_)
    exact r_iret C dX12_weekOf_25 rfl rfl trivial
  · refine r_iload C dX12_weekOf_9 rfl ?_
    refine r_if_lt C 20 dX12_weekOf_11 (by decide) ?_ ?_
    · refine r_aload_n C dX12_weekOf_20 rfl ?_
      refine r_iconst C (-1 : Int32) dX12_weekOf_21 (by decide) ?_
      refine r_callV C (st := []) (As := [.int (-1 : Int32)]) (d := 0) (j := 0) dX12_weekOf_22 ml_X12_174 vw_X12_refuse ⟨_, _, _, _, rfl, rfl⟩ (dm0 (by decide)) (fun r5 e => c_m_refuse Θ.1.2.1 (cW Θ) (cAd Θ) (cN Θ) σ (-1 : Int32) r5 e) rfl rfl (Nat.le_of_ble_eq_true rfl) ⟨rfl, rfl, by decide, by decide⟩ (fun r5 h6 => ?_)
      exact r_iret C dX12_weekOf_25 rfl rfl trivial
    · refine r_iload C dX12_weekOf_14 rfl ?_
      refine r_iload_n C dX12_weekOf_16 rfl ?_
      refine r_icmp_lt C 26 dX12_weekOf_17 (by decide) ?_ ?_
      · refine r_iload_n C dX12_weekOf_26 rfl ?_
        refine r_iload_n C dX12_weekOf_27 rfl ?_
        refine r_iload C dX12_weekOf_28 rfl ?_
        refine r_iload C dX12_weekOf_30 rfl ?_
        refine r_callS C (st := []) (As := [.int a2, .int a3, .int a4, .int a5]) dX12_weekOf_32 ml_X12_348 sw_X12_wrongWeeks (fun r7 e => c_m_wrongWeeks Θ.1.2.1 (cW Θ) (cAd Θ) (cN Θ) σ a2 a3 a4 a5 r7 e) rfl rfl (Nat.le_of_ble_eq_true rfl) ⟨rfl, rfl, by decide, by decide⟩ (fun r7 h8 => ?_)
        refine r_istore C [some (.ref (cF Θ 0)), some (.int a1), some (.int a2), some (.int a3), some (.int a4), some (.int a5), some (.int a6), some (.int r7), none, none, none] dX12_weekOf_35 rfl (by decide) rfl ?_
        refine r_iload C dX12_weekOf_37 rfl ?_
        refine r_if_ge C 49 dX12_weekOf_39 (by decide) ?_ ?_
        · refine r_aload_n C dX12_weekOf_49 rfl ?_
          refine r_iload_n C dX12_weekOf_50 rfl ?_
          refine r_iload_n C dX12_weekOf_51 rfl ?_
          refine r_iload_n C dX12_weekOf_52 rfl ?_
          refine r_iload C dX12_weekOf_53 rfl ?_
          refine r_callV C (st := []) (As := [.int a1, .int a2, .int a3, .int a4]) (d := 0) (j := 0) dX12_weekOf_55 ml_X12_352 vw_X12_findWeeks ⟨_, _, _, _, rfl, rfl⟩ (dm0 (by decide)) (fun r9 e => c_m_findWeeks Θ.1.2.1 (cW Θ) (cAd Θ) (cN Θ) σ a1 a2 a3 a4 r9 e) rfl rfl (Nat.le_of_ble_eq_true rfl) ⟨rfl, rfl, by decide, by decide⟩ (fun r9 h10 => ?_)
          refine r_iconst C (0 : Int32) dX12_weekOf_58 (by decide) ?_
          refine r_istore C [some (.ref (cF Θ 0)), some (.int a1), some (.int a2), some (.int a3), some (.int a4), some (.int a5), some (.int a6), some (.int r7), some (.int (0 : Int32)), none, none] dX12_weekOf_59 rfl (by decide) rfl ?_
          refine r_iconst C (0 : Int32) dX12_weekOf_61 (by decide) ?_
          refine r_istore C [some (.ref (cF Θ 0)), some (.int a1), some (.int a2), some (.int a3), some (.int a4), some (.int a5), some (.int a6), some (.int r7), some (.int (0 : Int32)), some (.int (0 : Int32)), none] dX12_weekOf_62 rfl (by decide) rfl ?_
          refine r_iconst C (0 : Int32) dX12_weekOf_64 (by decide) ?_
          refine r_istore C [some (.ref (cF Θ 0)), some (.int a1), some (.int a2), some (.int a3), some (.int a4), some (.int a5), some (.int a6), some (.int r7), some (.int (0 : Int32)), some (.int (0 : Int32)), some (.int (0 : Int32))] dX12_weekOf_65 rfl (by decide) rfl ?_
          refine WA.join (α := Int32) 164 (fun e16 => [none, none, some (.int a2), some (.int a3), some (.int a4), none, some (.int a6), none, none, some (.int e16), none]) (fun e16 => []) (fun e16 => r9) (fun e16 => True) (fun e16 h17 => ?_) (fun J18 => ?_)
          · refine r_iload C dX12_weekOf_164 rfl ?_
            refine r_iload C dX12_weekOf_166 rfl ?_
            refine r_imul C dX12_weekOf_168 ?_
            refine r_iload C dX12_weekOf_169 rfl ?_
            refine r_iload_n C dX12_weekOf_171 rfl ?_
            refine r_iconst C (1 : Int32) dX12_weekOf_172 (by decide) ?_
            refine r_isub C dX12_weekOf_173 ?_
            refine WA.join (α := Int32) 185 (fun t19 => [none, none, none, none, none, none, none, none, none, none, none]) (fun t19 => [.int t19, .int (e16 * a4)]) (fun t19 => r9) (fun t19 => True) (fun t19 h20 => ?_) (fun J21 => ?_)
            · refine r_iadd C dX12_weekOf_185 ?_
              exact r_iret C dX12_weekOf_186 rfl rfl trivial
            · refine WA.bif ?_
              refine r_icmp_ne C 184 dX12_weekOf_174 (by decide) ?_ ?_
              · refine r_iconst C (0 : Int32) dX12_weekOf_184 (by decide) ?_
                refine WA.wk (lv' := [none, none, none, none, none, none, none, none, none, none, none]) [false, false, false, false, false, false, false, false, false, false, false] rfl ?_
                exact J21 (0 : Int32) trivial
              · refine r_iload_n C dX12_weekOf_177 rfl ?_
                refine r_iload C dX12_weekOf_178 rfl ?_
                refine WA.bif ?_
                refine r_irem C dX12_weekOf_180 ?_
                refine r_goto C 185 dX12_weekOf_181 (by decide) ?_
                refine WA.wk (lv' := [none, none, none, none, none, none, none, none, none, none, none]) [false, false, false, false, false, false, false, false, false, false, false] rfl ?_
                exact J21 (a2 - a2 / a4 * a4) trivial
          · refine WA.wk (lv' := [some (.ref (cF Θ 0)), none, some (.int a2), some (.int a3), some (.int a4), none, some (.int a6), none, some (.int (0 : Int32)), some (.int (0 : Int32)), some (.int (0 : Int32))]) [true, false, true, true, true, false, true, false, true, true, true] rfl ?_
            refine WA.itr (S := Int32 × Int32 × Int32) 67 (fun s11 => [some (.ref (cF Θ 0)), none, some (.int a2), some (.int a3), some (.int a4), none, some (.int a6), none, some (.int s11.1), some (.int s11.2.1), some (.int s11.2.2)]) (fun s11 => []) (fun s11 => r9) (fun s11 => True) (fun s11 k15 h12 ih13 hx14 => ?_) FU ((0 : Int32), (0 : Int32), (0 : Int32)) trivial
            refine r_iload C dX12_weekOf_67 rfl ?_
            refine r_iload C dX12_weekOf_69 rfl ?_
            refine WA.bif ?_
            refine r_icmp_gt C 164 dX12_weekOf_71 (by decide) ?_ ?_
            · refine WA.wk (lv' := [none, none, some (.int a2), some (.int a3), some (.int a4), none, some (.int a6), none, none, some (.int s11.2.1), none]) [false, false, true, true, true, false, true, false, false, true, false] rfl ?_
              exact WA.eqK (hx14 _) (J18 s11.2.1 trivial)
            · refine r_iload C dX12_weekOf_74 rfl ?_
              refine r_iload C dX12_weekOf_76 rfl ?_
              refine r_iadd C dX12_weekOf_78 ?_
              refine r_istore C [some (.ref (cF Θ 0)), none, some (.int a2), some (.int a3), some (.int a4), none, some (.int a6), none, some (.int (s11.1 + s11.2.1)), some (.int s11.2.1), some (.int s11.2.2)] dX12_weekOf_79 rfl (by decide) rfl ?_
              refine r_iload_n C dX12_weekOf_81 rfl ?_
              refine r_iload C dX12_weekOf_82 rfl ?_
              refine WA.bif ?_
              refine r_idiv C dX12_weekOf_84 ?_
              refine r_iload C dX12_weekOf_85 rfl ?_
              refine r_isub C dX12_weekOf_87 ?_
              refine r_istore C [some (.ref (cF Θ 0)), none, some (.int a2), some (.int a3), some (.int a4), none, some (.int a6), none, some (.int (s11.1 + s11.2.1)), some (.int ((a2 / a4) - (s11.1 + s11.2.1))), some (.int s11.2.2)] dX12_weekOf_88 rfl (by decide) rfl ?_
              refine WA.asc ?_
              refine WA.join (α := Int32) 158 (fun e27 => [some (.ref (cF Θ 0)), none, some (.int a2), some (.int a3), some (.int a4), none, some (.int a6), none, some (.int (s11.1 + s11.2.1)), some (.int e27), some (.int s11.2.2)]) (fun e27 => []) (fun e27 => r9) (fun e27 => True) (fun e27 h28 => ?_) (fun J29 => ?_)
              · refine r_iinc C (1 : Int32) [some (.ref (cF Θ 0)), none, some (.int a2), some (.int a3), some (.int a4), none, some (.int a6), none, some (.int (s11.1 + s11.2.1)), some (.int e27), some (.int (s11.2.2 + (1 : Int32)))] dX12_weekOf_158 (by decide) rfl rfl (by decide) rfl ?_
                refine r_goto C 67 dX12_weekOf_161 (by decide) ?_
                refine WA.wk (lv' := [some (.ref (cF Θ 0)), none, some (.int a2), some (.int a3), some (.int a4), none, some (.int a6), none, some (.int (s11.1 + s11.2.1)), some (.int e27), some (.int (s11.2.2 + (1 : Int32)))]) [true, false, true, true, true, false, true, false, true, true, true] rfl ?_
                exact ih13 (s11.1 + s11.2.1, e27, s11.2.2 + (1 : Int32)) trivial
              · refine WA.wk (lv' := [some (.ref (cF Θ 0)), none, some (.int a2), some (.int a3), some (.int a4), none, some (.int a6), none, some (.int (s11.1 + s11.2.1)), some (.int ((a2 / a4) - (s11.1 + s11.2.1))), some (.int s11.2.2)]) [true, false, true, true, true, false, true, false, true, true, true] rfl ?_
                refine WA.itr (S := Int32) 90 (fun s22 => [some (.ref (cF Θ 0)), none, some (.int a2), some (.int a3), some (.int a4), none, some (.int a6), none, some (.int (s11.1 + s11.2.1)), some (.int s22), some (.int s11.2.2)]) (fun s22 => []) (fun s22 => r9) (fun s22 => True) (fun s22 k26 h23 ih24 hx25 => ?_) FU ((a2 / a4) - (s11.1 + s11.2.1)) trivial
                refine r_iload C dX12_weekOf_90 rfl ?_
                refine r_iload_n C dX12_weekOf_92 rfl ?_
                refine r_iconst C (1 : Int32) dX12_weekOf_93 (by decide) ?_
                refine r_isub C dX12_weekOf_94 ?_
                refine WA.bif ?_
                refine r_icmp_ge C 158 dX12_weekOf_95 (by decide) ?_ ?_
                · refine WA.wk (lv' := [some (.ref (cF Θ 0)), none, some (.int a2), some (.int a3), some (.int a4), none, some (.int a6), none, some (.int (s11.1 + s11.2.1)), some (.int s22), some (.int s11.2.2)]) [true, false, true, true, true, false, true, false, true, true, true] rfl ?_
                  exact WA.eqK (hx25 _) (J29 s22 trivial)
                · refine r_aload_n C dX12_weekOf_98 rfl ?_
                  refine r_iload C dX12_weekOf_99 rfl ?_
                  refine r_iload_n C dX12_weekOf_101 rfl ?_
                  refine r_iload C dX12_weekOf_102 rfl ?_
                  refine r_iload C dX12_weekOf_104 rfl ?_
                  refine r_iload C dX12_weekOf_106 rfl ?_
                  refine r_iload_n C dX12_weekOf_108 rfl ?_
                  refine r_iload C dX12_weekOf_109 rfl ?_
                  refine WA.bif ?_
                  refine r_irem C dX12_weekOf_111 ?_
                  refine WA.asc ?_
                  refine r_callV C (st := []) (As := [.int s11.2.2, .int a3, .int (s11.1 + s11.2.1), .int s22, .int a4, .int (a2 - a2 / a4 * a4)]) (d := 0) (j := 0) dX12_weekOf_112 ml_X12_344 vw_X12_weekCost ⟨_, _, _, _, rfl, rfl⟩ (dm0 (by decide)) (fun r30 e => c_m_weekCost Θ.1.2.1 (cW Θ) (cAd Θ) (cN Θ) r9 s11.2.2 a3 (s11.1 + s11.2.1) s22 a4 (a2 - a2 / a4 * a4) r30 e) rfl rfl (Nat.le_of_ble_eq_true rfl) ⟨rfl, rfl, by decide, by decide⟩ (fun r30 h31 => ?_)
                  refine r_aload_n C dX12_weekOf_115 rfl ?_
                  refine r_getF0 C dX12_weekOf_116 fg_X12_143 (by decide) ?_
                  refine r_sipush C (201 : Int32) dX12_weekOf_119 (by decide) ?_
                  refine r_iload C dX12_weekOf_122 rfl ?_
                  refine r_iconst C (1 : Int32) dX12_weekOf_124 (by decide) ?_
                  refine r_iadd C dX12_weekOf_125 ?_
                  refine r_imul C dX12_weekOf_126 ?_
                  refine r_iload C dX12_weekOf_127 rfl ?_
                  refine r_iadd C dX12_weekOf_129 ?_
                  refine r_iload C dX12_weekOf_130 rfl ?_
                  refine r_iadd C dX12_weekOf_132 ?_
                  refine WA.asc ?_
                  refine r_iald (α := Unit) C dX12_weekOf_133 ag_LM_43 (fun i32 => ?_)
                  refine r_iadd C dX12_weekOf_134 ?_
                  refine r_aload_n C dX12_weekOf_135 rfl ?_
                  refine r_getF0 C dX12_weekOf_136 fg_X12_143 (by decide) ?_
                  refine r_sipush C (201 : Int32) dX12_weekOf_139 (by decide) ?_
                  refine r_iload C dX12_weekOf_142 rfl ?_
                  refine r_imul C dX12_weekOf_144 ?_
                  refine r_iload C dX12_weekOf_145 rfl ?_
                  refine r_iadd C dX12_weekOf_147 ?_
                  refine WA.asc ?_
                  refine r_iald (α := Unit) C dX12_weekOf_148 ag_LM_43 (fun i33 => ?_)
                  refine WA.bif ?_
                  refine r_icmp_eq C 158 dX12_weekOf_149 (by decide) ?_ ?_
                  · refine WA.wk (lv' := [some (.ref (cF Θ 0)), none, some (.int a2), some (.int a3), some (.int a4), none, some (.int a6), none, some (.int (s11.1 + s11.2.1)), some (.int s22), some (.int s11.2.2)]) [true, false, true, true, true, false, true, false, true, true, true] rfl ?_
                    exact WA.eqK (hx25 _) (J29 s22 trivial)
                  · refine r_iinc C (-1 : Int32) [some (.ref (cF Θ 0)), none, some (.int a2), some (.int a3), some (.int a4), none, some (.int a6), none, some (.int (s11.1 + s11.2.1)), some (.int (s22 + (-1 : Int32))), some (.int s11.2.2)] dX12_weekOf_152 (by decide) rfl rfl (by decide) rfl ?_
                    refine r_goto C 90 dX12_weekOf_155 (by decide) ?_
                    refine WA.wk (lv' := [some (.ref (cF Θ 0)), none, some (.int a2), some (.int a3), some (.int a4), none, some (.int a6), none, some (.int (s11.1 + s11.2.1)), some (.int (s22 + (-1 : Int32))), some (.int s11.2.2)]) [true, false, true, true, true, false, true, false, true, true, true] rfl ?_
                    exact ih24 (s22 + (-1 : Int32)) trivial
        · refine r_aload_n C dX12_weekOf_42 rfl ?_
          refine r_iload C dX12_weekOf_43 rfl ?_
          refine r_callV C (st := []) (As := [.int r7]) (d := 0) (j := 0) dX12_weekOf_45 ml_X12_174 vw_X12_refuse ⟨_, _, _, _, rfl, rfl⟩ (dm0 (by decide)) (fun r34 e => c_m_refuse Θ.1.2.1 (cW Θ) (cAd Θ) (cN Θ) σ r7 r34 e) rfl rfl (Nat.le_of_ble_eq_true rfl) ⟨rfl, rfl, by decide, by decide⟩ (fun r34 h35 => ?_)
          exact r_iret C dX12_weekOf_48 rfl rfl trivial
      · refine r_aload_n C dX12_weekOf_20 rfl ?_
        refine r_iconst C (-1 : Int32) dX12_weekOf_21 (by decide) ?_
        refine r_callV C (st := []) (As := [.int (-1 : Int32)]) (d := 0) (j := 0) dX12_weekOf_22 ml_X12_174 vw_X12_refuse ⟨_, _, _, _, rfl, rfl⟩ (dm0 (by decide)) (fun r36 e => c_m_refuse Θ.1.2.1 (cW Θ) (cAd Θ) (cN Θ) σ (-1 : Int32) r36 e) rfl rfl (Nat.le_of_ble_eq_true rfl) ⟨rfl, rfl, by decide, by decide⟩ (fun r36 h37 => ?_)
        exact r_iret C dX12_weekOf_25 rfl rfl trivial
theorem c_m_weekOf (l : Launch) (ω : Wd) (ad : Nat → Nat → Nat) (N : Nat → Nat) (σ : St) (a1 : Int32) (a2 : Int32) (a3 : Int32) (a4 : Int32) (a5 : Int32) (a6 : Int32) : ∀ r : Int32 × St, m_weekOf σ a1 a2 a3 a4 a5 a6 = some r → Ct l yX12_weekOf cX12_weekOf 11 (some .int) ({ frames := 3, cells := 0, slots := 0, locals := 78 } : Room) LM ω ad N [.ref (ω.2.1 0), .int a1, .int a2, .int a3, .int a4, .int a5, .int a6] σ (some (.int r.1)) r.2 (True) :=
  ct_of (o := fun r : Int32 × St => (some (.int r.1))) (s' := fun r => r.2) (P := fun r => True) [some (.ref (ω.2.1 0)), some (.int a1), some (.int a2), some (.int a3), some (.int a4), some (.int a5), some (.int a6), none, none, none, none] (by decide) rfl (Nat.le_of_ble_eq_true rfl) (fun Γ C _ _ => w_m_weekOf (Γ, ω, 11, ad, N, 0, 0) σ a1 a2 a3 a4 a5 a6 C)
theorem vw_X12_isCut : VW yX12_isCut cX12_isCut 7 (some .boolean) 3 := ⟨⟨(in_wt 88 (by decide +kernel) (by decide +kernel)), (in_wt 1738 (by decide +kernel) (by decide +kernel)), by decide +kernel⟩, (in_wt 1737 (by decide +kernel) (by decide +kernel)), (in_wt 78 (by decide +kernel) (by decide +kernel))⟩
theorem ml_X12_356 : Cond.methodLink RX12 356 yX12_isCut ∈ wt := in_wt 1735 (by decide +kernel) (by decide +kernel)
/-- PostsEndModel.public int turning(int, int, int, int, int) -/
def m_turning (σ : St) (a1 : Int32) (a2 : Int32) (a3 : Int32) (a4 : Int32) (a5 : Int32) : Option (Int32 × St) := (Option.bind (m_isPool σ a1 a2) fun r1 => (if r1.1 = 0 then (Option.bind (m_refuse r1.2 (-1 : Int32)) fun r3 => some (r3.1, r3.2)) else (Option.bind (m_isPerson r1.2 a4) fun r5 => (if r5 = 0 then (Option.bind (m_refuse r1.2 (-1 : Int32)) fun r7 => some (r7.1, r7.2)) else (Option.bind (m_isOf r1.2 a4 a2) fun r9 => (if r9 = 0 then (Option.bind (m_refuse r1.2 (-1 : Int32)) fun r11 => some (r11.1, r11.2)) else (Option.bind (m_isGuarded r1.2 a4) fun r13 => (if r13 = 0 then (Option.bind (m_in a5 (0 : Int32) (3 : Int32)) fun r15 => (if r15 = 0 then (Option.bind (m_refuse r1.2 (-2 : Int32)) fun r59 => some (r59.1, r59.2)) else (Option.bind (m_wrongMany a3) fun r17 => (if r17 < 0 then (Option.bind (m_wrongMany a3) fun r55 => (Option.bind (m_refuse r1.2 r55) fun r57 => some (r57.1, r57.2))) else (Option.bind (m_isCut r1.2 a4 a2 a3) fun r19 => (Option.bind (ix 4 a5) fun i21 => (Option.bind (itr0 (S := Int32 × Int32 × St) (E := Int32 × St) (fun s22 => (if (60 : Int32) < s22.2.1 then some (.inr (s22.1, s22.2.2)) else (if s22.1 = (-9 : Int32) then (Option.bind (itr0 (S := Int32 × Int32 × St) (E := Int32 × St) (fun s32 => (if s32.2.1 < (2 : Int32) then (if s32.1 = (-9 : Int32) then (Option.bind (α := Int32) ((if s32.2.1 = 0 then some ((r19.2.1 0 17 i21) + s22.2.1) else some ((r19.2.1 0 17 i21) - s22.2.1))) fun t40 => (Option.bind (m_in t40 (0 : Int32) (60 : Int32)) fun r43 => (Option.bind (α := Int32 × St) ((if r43 = 0 then some (s32.1, s32.2.2) else (Option.bind (ix 4 a5) fun i48 => (lt1 (sx s32.2.2 0 17 i48 t40) fun σ49 => (Option.bind (m_isCut σ49 a4 a2 a3) fun r50 => (Option.bind (α := Int32) ((if r50.1 = r19.1 then some (-9 : Int32) else some (s22.2.1 + ((1000 : Int32) * s32.2.1)))) fun t52 => some (t52, r50.2))))))) fun t45 => some (.inl (t45.1, s32.2.1 + (1 : Int32), t45.2))))) else some (.inr (s32.1, s32.2.2))) else some (.inr (s32.1, s32.2.2)))) FU (s22.1, (0 : Int32), s22.2.2)) fun e37 => some (.inl (e37.1, s22.2.1 + (1 : Int32), e37.2))) else some (.inr (s22.1, s22.2.2))))) FU ((-9 : Int32), (1 : Int32), r19.2)) fun e27 => (Option.bind (ix 4 a5) fun i30 => (lt1 (sx e27.2 0 17 i30 (r19.2.1 0 17 i21)) fun σ31 => some (e27.1, σ31)))))))))) else (Option.bind (m_refuse r1.2 (-1 : Int32)) fun r61 => some (r61.1, r61.2))))))))))
set_option maxRecDepth 20000 in
set_option maxHeartbeats 4000000 in
theorem w_m_turning (Θ : TT) (σ : St) (a1 : Int32) (a2 : Int32) (a3 : Int32) (a4 : Int32) (a5 : Int32) (C : CX Θ cX12_turning RX12 (some .int) ({ frames := 6, cells := 0, slots := 0, locals := 143 } : Room) 12) : WA LM Θ (fun r : Int32 × St => Qm LM Θ (some (.int r.1)) r.2 (True)) 0 [some (.ref (cF Θ 0)), some (.int a1), some (.int a2), some (.int a3), some (.int a4), some (.int a5), none, none, none, none, none, none] [] σ (m_turning σ a1 a2 a3 a4 a5) := by
  unfold m_turning
  refine r_aload_n C dX12_turning_0 rfl ?_
  refine r_iload_n C dX12_turning_1 rfl ?_
  refine r_iload_n C dX12_turning_2 rfl ?_
  refine r_callV C (st := []) (As := [.int a1, .int a2]) (d := 0) (j := 0) dX12_turning_3 ml_X12_258 vw_X12_isPool ⟨_, _, _, _, rfl, rfl⟩ (dm0 (by decide)) (fun r1 e => c_m_isPool Θ.1.2.1 (cW Θ) (cAd Θ) (cN Θ) σ a1 a2 r1 e) rfl rfl (Nat.le_of_ble_eq_true rfl) ⟨rfl, rfl, by decide, by decide⟩ (fun r1 h2 => ?_)
  refine r_if_eq C 37 dX12_turning_6 (by decide) ?_ ?_
  · refine r_aload_n C dX12_turning_37 rfl ?_
    refine r_iconst C (-1 : Int32) dX12_turning_38 (by decide) ?_
    refine r_callV C (st := []) (As := [.int (-1 : Int32)]) (d := 0) (j := 0) dX12_turning_39 ml_X12_174 vw_X12_refuse ⟨_, _, _, _, rfl, rfl⟩ (dm0 (by decide)) (fun r3 e => c_m_refuse Θ.1.2.1 (cW Θ) (cAd Θ) (cN Θ) r1.2 (-1 : Int32) r3 e) rfl rfl (Nat.le_of_ble_eq_true rfl) ⟨rfl, rfl, by decide, by decide⟩ (fun r3 h4 => ?_)
    exact r_iret C dX12_turning_42 rfl rfl trivial
  · refine r_aload_n C dX12_turning_9 rfl ?_
    refine r_iload C dX12_turning_10 rfl ?_
    refine r_callV C (st := []) (As := [.int a4]) (d := 0) (j := 0) dX12_turning_12 ml_X12_194 vw_X12_isPerson ⟨_, _, _, _, rfl, rfl⟩ (dm0 (by decide)) (fun r5 e => c_m_isPerson Θ.1.2.1 (cW Θ) (cAd Θ) (cN Θ) r1.2 a4 r5 e) rfl rfl (Nat.le_of_ble_eq_true rfl) ⟨rfl, rfl, by decide, by decide⟩ (fun r5 h6 => ?_)
    refine r_if_eq C 37 dX12_turning_15 (by decide) ?_ ?_
    · refine r_aload_n C dX12_turning_37 rfl ?_
      refine r_iconst C (-1 : Int32) dX12_turning_38 (by decide) ?_
      refine r_callV C (st := []) (As := [.int (-1 : Int32)]) (d := 0) (j := 0) dX12_turning_39 ml_X12_174 vw_X12_refuse ⟨_, _, _, _, rfl, rfl⟩ (dm0 (by decide)) (fun r7 e => c_m_refuse Θ.1.2.1 (cW Θ) (cAd Θ) (cN Θ) r1.2 (-1 : Int32) r7 e) rfl rfl (Nat.le_of_ble_eq_true rfl) ⟨rfl, rfl, by decide, by decide⟩ (fun r7 h8 => ?_)
      exact r_iret C dX12_turning_42 rfl rfl trivial
    · refine r_aload_n C dX12_turning_18 rfl ?_
      refine r_iload C dX12_turning_19 rfl ?_
      refine r_iload_n C dX12_turning_21 rfl ?_
      refine r_callV C (st := []) (As := [.int a4, .int a2]) (d := 0) (j := 0) dX12_turning_22 ml_X12_249 vw_X12_isOf ⟨_, _, _, _, rfl, rfl⟩ (dm0 (by decide)) (fun r9 e => c_m_isOf Θ.1.2.1 (cW Θ) (cAd Θ) (cN Θ) r1.2 a4 a2 r9 e) rfl rfl (Nat.le_of_ble_eq_true rfl) ⟨rfl, rfl, by decide, by decide⟩ (fun r9 h10 => ?_)
      refine r_if_eq C 37 dX12_turning_25 (by decide) ?_ ?_
      · refine r_aload_n C dX12_turning_37 rfl ?_
        refine r_iconst C (-1 : Int32) dX12_turning_38 (by decide) ?_
        refine r_callV C (st := []) (As := [.int (-1 : Int32)]) (d := 0) (j := 0) dX12_turning_39 ml_X12_174 vw_X12_refuse ⟨_, _, _, _, rfl, rfl⟩ (dm0 (by decide)) (fun r11 e => c_m_refuse Θ.1.2.1 (cW Θ) (cAd Θ) (cN Θ) r1.2 (-1 : Int32) r11 e) rfl rfl (Nat.le_of_ble_eq_true rfl) ⟨rfl, rfl, by decide, by decide⟩ (fun r11 h12 => ?_)
        exact r_iret C dX12_turning_42 rfl rfl trivial
      · refine r_aload_n C dX12_turning_28 rfl ?_
        refine r_iload C dX12_turning_29 rfl ?_
        refine r_callV C (st := []) (As := [.int a4]) (d := 0) (j := 0) dX12_turning_31 ml_X12_252 vw_X12_isGuarded ⟨_, _, _, _, rfl, rfl⟩ (dm0 (by decide)) (fun r13 e => c_m_isGuarded Θ.1.2.1 (cW Θ) (cAd Θ) (cN Θ) r1.2 a4 r13 e) rfl rfl (Nat.le_of_ble_eq_true rfl) ⟨rfl, rfl, by decide, by decide⟩ (fun r13 h14 => ?_)
        refine r_if_eq C 43 dX12_turning_34 (by decide) ?_ ?_
        · refine r_iload C dX12_turning_43 rfl ?_
          refine r_iconst C (0 : Int32) dX12_turning_45 (by decide) ?_
          refine r_iconst C (3 : Int32) dX12_turning_46 (by decide) ?_
          refine r_callS C (st := []) (As := [.int a5, .int (0 : Int32), .int (3 : Int32)]) dX12_turning_47 ml_X12_157 sw_X12_in (fun r15 e => c_m_in Θ.1.2.1 (cW Θ) (cAd Θ) (cN Θ) r1.2 a5 (0 : Int32) (3 : Int32) r15 e) rfl rfl (Nat.le_of_ble_eq_true rfl) ⟨rfl, rfl, by decide, by decide⟩ (fun r15 h16 => ?_)
          refine r_if_ne C 60 dX12_turning_50 (by decide) ?_ ?_
          · refine r_iload_n C dX12_turning_60 rfl ?_
            refine r_callS C (st := []) (As := [.int a3]) dX12_turning_61 ml_X12_261 sw_X12_wrongMany (fun r17 e => c_m_wrongMany Θ.1.2.1 (cW Θ) (cAd Θ) (cN Θ) r1.2 a3 r17 e) rfl rfl (Nat.le_of_ble_eq_true rfl) ⟨rfl, rfl, by decide, by decide⟩ (fun r17 h18 => ?_)
            refine r_if_ge C 76 dX12_turning_64 (by decide) ?_ ?_
            · refine r_aload_n C dX12_turning_76 rfl ?_
              refine r_iload C dX12_turning_77 rfl ?_
              refine r_iload_n C dX12_turning_79 rfl ?_
              refine r_iload_n C dX12_turning_80 rfl ?_
              refine r_callV C (st := []) (As := [.int a4, .int a2, .int a3]) (d := 0) (j := 0) dX12_turning_81 ml_X12_356 vw_X12_isCut ⟨_, _, _, _, rfl, rfl⟩ (dm0 (by decide)) (fun r19 e => c_m_isCut Θ.1.2.1 (cW Θ) (cAd Θ) (cN Θ) r1.2 a4 a2 a3 r19 e) rfl rfl (Nat.le_of_ble_eq_true rfl) ⟨rfl, rfl, by decide, by decide⟩ (fun r19 h20 => ?_)
              refine r_istore C [some (.ref (cF Θ 0)), some (.int a1), some (.int a2), some (.int a3), some (.int a4), some (.int a5), some (.int r19.1), none, none, none, none, none] dX12_turning_84 rfl (by decide) rfl ?_
              refine r_aload_n C dX12_turning_86 rfl ?_
              refine r_getF0 C dX12_turning_87 fg_X12_65 (by decide) ?_
              refine r_iload C dX12_turning_90 rfl ?_
              refine r_iald (α := Unit) C dX12_turning_92 ag_LM_17 (fun i21 => ?_)
              refine r_istore C [some (.ref (cF Θ 0)), some (.int a1), some (.int a2), some (.int a3), some (.int a4), some (.int a5), some (.int r19.1), some (.int (r19.2.1 0 17 i21)), none, none, none, none] dX12_turning_93 rfl (by decide) rfl ?_
              refine r_bipush C (-9 : Int32) dX12_turning_95 (by decide) ?_
              refine r_istore C [some (.ref (cF Θ 0)), some (.int a1), some (.int a2), some (.int a3), some (.int a4), some (.int a5), some (.int r19.1), some (.int (r19.2.1 0 17 i21)), some (.int (-9 : Int32)), none, none, none] dX12_turning_97 rfl (by decide) rfl ?_
              refine r_iconst C (1 : Int32) dX12_turning_99 (by decide) ?_
              refine r_istore C [some (.ref (cF Θ 0)), some (.int a1), some (.int a2), some (.int a3), some (.int a4), some (.int a5), some (.int r19.1), some (.int (r19.2.1 0 17 i21)), some (.int (-9 : Int32)), some (.int (1 : Int32)), none, none] dX12_turning_100 rfl (by decide) rfl ?_
              refine WA.join (α := Int32 × St) 213 (fun e27 => [some (.ref (cF Θ 0)), none, none, none, none, some (.int a5), none, some (.int (r19.2.1 0 17 i21)), some (.int e27.1), none, none, none]) (fun e27 => []) (fun e27 => e27.2) (fun e27 => True) (fun e27 h28 => ?_) (fun J29 => ?_)
              · refine r_aload_n C dX12_turning_213 rfl ?_
                refine r_getF0 C dX12_turning_214 fg_X12_65 (by decide) ?_
                refine r_iload C dX12_turning_217 rfl ?_
                refine r_iload C dX12_turning_219 rfl ?_
                refine r_iast C dX12_turning_221 ag_LM_17 (fun i30 => ?_)
                refine WA.gen (fun σ31 => ?_)
                refine r_iload C dX12_turning_222 rfl ?_
                exact r_iret C dX12_turning_224 rfl rfl trivial
              · refine WA.wk (lv' := [some (.ref (cF Θ 0)), none, some (.int a2), some (.int a3), some (.int a4), some (.int a5), some (.int r19.1), some (.int (r19.2.1 0 17 i21)), some (.int (-9 : Int32)), some (.int (1 : Int32)), none, none]) [true, false, true, true, true, true, true, true, true, true, false, false] rfl ?_
                refine WA.itr (S := Int32 × Int32 × St) 102 (fun s22 => [some (.ref (cF Θ 0)), none, some (.int a2), some (.int a3), some (.int a4), some (.int a5), some (.int r19.1), some (.int (r19.2.1 0 17 i21)), some (.int s22.1), some (.int s22.2.1), none, none]) (fun s22 => []) (fun s22 => s22.2.2) (fun s22 => True) (fun s22 k26 h23 ih24 hx25 => ?_) FU ((-9 : Int32), (1 : Int32), r19.2) trivial
                refine r_iload C dX12_turning_102 rfl ?_
                refine r_bipush C (60 : Int32) dX12_turning_104 (by decide) ?_
                refine WA.bif ?_
                refine r_icmp_gt C 213 dX12_turning_106 (by decide) ?_ ?_
                · refine WA.wk (lv' := [some (.ref (cF Θ 0)), none, none, none, none, some (.int a5), none, some (.int (r19.2.1 0 17 i21)), some (.int s22.1), none, none, none]) [true, false, false, false, false, true, false, true, true, false, false, false] rfl ?_
                  exact WA.eqK (hx25 _) (J29 (s22.1, s22.2.2) trivial)
                · refine r_iload C dX12_turning_109 rfl ?_
                  refine r_bipush C (-9 : Int32) dX12_turning_111 (by decide) ?_
                  refine WA.bif ?_
                  refine r_icmp_ne C 213 dX12_turning_113 (by decide) ?_ ?_
                  · refine WA.wk (lv' := [some (.ref (cF Θ 0)), none, none, none, none, some (.int a5), none, some (.int (r19.2.1 0 17 i21)), some (.int s22.1), none, none, none]) [true, false, false, false, false, true, false, true, true, false, false, false] rfl ?_
                    exact WA.eqK (hx25 _) (J29 (s22.1, s22.2.2) trivial)
                  · refine r_iconst C (0 : Int32) dX12_turning_116 (by decide) ?_
                    refine r_istore C [some (.ref (cF Θ 0)), none, some (.int a2), some (.int a3), some (.int a4), some (.int a5), some (.int r19.1), some (.int (r19.2.1 0 17 i21)), some (.int s22.1), some (.int s22.2.1), some (.int (0 : Int32)), none] dX12_turning_117 rfl (by decide) rfl ?_
                    refine WA.asc ?_
                    refine WA.join (α := Int32 × St) 207 (fun e37 => [some (.ref (cF Θ 0)), none, some (.int a2), some (.int a3), some (.int a4), some (.int a5), some (.int r19.1), some (.int (r19.2.1 0 17 i21)), some (.int e37.1), some (.int s22.2.1), none, none]) (fun e37 => []) (fun e37 => e37.2) (fun e37 => True) (fun e37 h38 => ?_) (fun J39 => ?_)
                    · refine r_iinc C (1 : Int32) [some (.ref (cF Θ 0)), none, some (.int a2), some (.int a3), some (.int a4), some (.int a5), some (.int r19.1), some (.int (r19.2.1 0 17 i21)), some (.int e37.1), some (.int (s22.2.1 + (1 : Int32))), none, none] dX12_turning_207 (by decide) rfl rfl (by decide) rfl ?_
                      refine r_goto C 102 dX12_turning_210 (by decide) ?_
                      refine WA.wk (lv' := [some (.ref (cF Θ 0)), none, some (.int a2), some (.int a3), some (.int a4), some (.int a5), some (.int r19.1), some (.int (r19.2.1 0 17 i21)), some (.int e37.1), some (.int (s22.2.1 + (1 : Int32))), none, none]) [true, false, true, true, true, true, true, true, true, true, false, false] rfl ?_
                      exact ih24 (e37.1, s22.2.1 + (1 : Int32), e37.2) trivial
                    · refine WA.wk (lv' := [some (.ref (cF Θ 0)), none, some (.int a2), some (.int a3), some (.int a4), some (.int a5), some (.int r19.1), some (.int (r19.2.1 0 17 i21)), some (.int s22.1), some (.int s22.2.1), some (.int (0 : Int32)), none]) [true, false, true, true, true, true, true, true, true, true, true, false] rfl ?_
                      refine WA.itr (S := Int32 × Int32 × St) 119 (fun s32 => [some (.ref (cF Θ 0)), none, some (.int a2), some (.int a3), some (.int a4), some (.int a5), some (.int r19.1), some (.int (r19.2.1 0 17 i21)), some (.int s32.1), some (.int s22.2.1), some (.int s32.2.1), none]) (fun s32 => []) (fun s32 => s32.2.2) (fun s32 => True) (fun s32 k36 h33 ih34 hx35 => ?_) FU (s22.1, (0 : Int32), s22.2.2) trivial
                      refine r_iload C dX12_turning_119 rfl ?_
                      refine r_iconst C (2 : Int32) dX12_turning_121 (by decide) ?_
                      refine WA.bif ?_
                      refine r_icmp_ge C 207 dX12_turning_122 (by decide) ?_ ?_
                      · refine WA.wk (lv' := [some (.ref (cF Θ 0)), none, some (.int a2), some (.int a3), some (.int a4), some (.int a5), some (.int r19.1), some (.int (r19.2.1 0 17 i21)), some (.int s32.1), some (.int s22.2.1), none, none]) [true, false, true, true, true, true, true, true, true, true, false, false] rfl ?_
                        exact WA.eqK (hx35 _) (J39 (s32.1, s32.2.2) trivial)
                      · refine r_iload C dX12_turning_125 rfl ?_
                        refine r_bipush C (-9 : Int32) dX12_turning_127 (by decide) ?_
                        refine WA.bif ?_
                        refine r_icmp_ne C 207 dX12_turning_129 (by decide) ?_ ?_
                        · refine WA.wk (lv' := [some (.ref (cF Θ 0)), none, some (.int a2), some (.int a3), some (.int a4), some (.int a5), some (.int r19.1), some (.int (r19.2.1 0 17 i21)), some (.int s32.1), some (.int s22.2.1), none, none]) [true, false, true, true, true, true, true, true, true, true, false, false] rfl ?_
                          exact WA.eqK (hx35 _) (J39 (s32.1, s32.2.2) trivial)
                        · refine r_iload C dX12_turning_132 rfl ?_
                          refine WA.asc ?_
                          refine WA.join (α := Int32) 150 (fun t40 => [some (.ref (cF Θ 0)), none, some (.int a2), some (.int a3), some (.int a4), some (.int a5), some (.int r19.1), some (.int (r19.2.1 0 17 i21)), some (.int s32.1), some (.int s22.2.1), some (.int s32.2.1), none]) (fun t40 => [.int t40]) (fun t40 => s32.2.2) (fun t40 => True) (fun t40 h41 => ?_) (fun J42 => ?_)
                          · refine r_istore C [some (.ref (cF Θ 0)), none, some (.int a2), some (.int a3), some (.int a4), some (.int a5), some (.int r19.1), some (.int (r19.2.1 0 17 i21)), some (.int s32.1), some (.int s22.2.1), some (.int s32.2.1), some (.int t40)] dX12_turning_150 rfl (by decide) rfl ?_
                            refine r_iload C dX12_turning_152 rfl ?_
                            refine r_iconst C (0 : Int32) dX12_turning_154 (by decide) ?_
                            refine r_bipush C (60 : Int32) dX12_turning_155 (by decide) ?_
                            refine WA.asc ?_
                            refine r_callS C (st := []) (As := [.int t40, .int (0 : Int32), .int (60 : Int32)]) dX12_turning_157 ml_X12_157 sw_X12_in (fun r43 e => c_m_in Θ.1.2.1 (cW Θ) (cAd Θ) (cN Θ) s32.2.2 t40 (0 : Int32) (60 : Int32) r43 e) rfl rfl (Nat.le_of_ble_eq_true rfl) ⟨rfl, rfl, by decide, by decide⟩ (fun r43 h44 => ?_)
                            refine WA.asc ?_
                            refine WA.join (α := Int32 × St) 201 (fun t45 => [some (.ref (cF Θ 0)), none, some (.int a2), some (.int a3), some (.int a4), some (.int a5), some (.int r19.1), some (.int (r19.2.1 0 17 i21)), some (.int t45.1), some (.int s22.2.1), some (.int s32.2.1), none]) (fun t45 => []) (fun t45 => t45.2) (fun t45 => True) (fun t45 h46 => ?_) (fun J47 => ?_)
                            · refine r_iinc C (1 : Int32) [some (.ref (cF Θ 0)), none, some (.int a2), some (.int a3), some (.int a4), some (.int a5), some (.int r19.1), some (.int (r19.2.1 0 17 i21)), some (.int t45.1), some (.int s22.2.1), some (.int (s32.2.1 + (1 : Int32))), none] dX12_turning_201 (by decide) rfl rfl (by decide) rfl ?_
                              refine r_goto C 119 dX12_turning_204 (by decide) ?_
                              refine WA.wk (lv' := [some (.ref (cF Θ 0)), none, some (.int a2), some (.int a3), some (.int a4), some (.int a5), some (.int r19.1), some (.int (r19.2.1 0 17 i21)), some (.int t45.1), some (.int s22.2.1), some (.int (s32.2.1 + (1 : Int32))), none]) [true, false, true, true, true, true, true, true, true, true, true, false] rfl ?_
                              exact ih34 (t45.1, s32.2.1 + (1 : Int32), t45.2) trivial
                            · refine WA.bif ?_
                              refine r_if_eq C 201 dX12_turning_160 (by decide) ?_ ?_
                              · refine WA.wk (lv' := [some (.ref (cF Θ 0)), none, some (.int a2), some (.int a3), some (.int a4), some (.int a5), some (.int r19.1), some (.int (r19.2.1 0 17 i21)), some (.int s32.1), some (.int s22.2.1), some (.int s32.2.1), none]) [true, false, true, true, true, true, true, true, true, true, true, false] rfl ?_
                                exact J47 (s32.1, s32.2.2) trivial
                              · refine r_aload_n C dX12_turning_163 rfl ?_
                                refine r_getF0 C dX12_turning_164 fg_X12_65 (by decide) ?_
                                refine r_iload C dX12_turning_167 rfl ?_
                                refine r_iload C dX12_turning_169 rfl ?_
                                refine WA.asc ?_
                                refine r_iast C dX12_turning_171 ag_LM_17 (fun i48 => ?_)
                                refine WA.genB (fun σ49 => ?_)
                                refine r_aload_n C dX12_turning_172 rfl ?_
                                refine r_iload C dX12_turning_173 rfl ?_
                                refine r_iload_n C dX12_turning_175 rfl ?_
                                refine r_iload_n C dX12_turning_176 rfl ?_
                                refine WA.asc ?_
                                refine r_callV C (st := []) (As := [.int a4, .int a2, .int a3]) (d := 0) (j := 0) dX12_turning_177 ml_X12_356 vw_X12_isCut ⟨_, _, _, _, rfl, rfl⟩ (dm0 (by decide)) (fun r50 e => c_m_isCut Θ.1.2.1 (cW Θ) (cAd Θ) (cN Θ) σ49 a4 a2 a3 r50 e) rfl rfl (Nat.le_of_ble_eq_true rfl) ⟨rfl, rfl, by decide, by decide⟩ (fun r50 h51 => ?_)
                                refine r_iload C dX12_turning_180 rfl ?_
                                refine WA.asc ?_
                                refine WA.join (α := Int32) 199 (fun t52 => [some (.ref (cF Θ 0)), none, some (.int a2), some (.int a3), some (.int a4), some (.int a5), some (.int r19.1), some (.int (r19.2.1 0 17 i21)), none, some (.int s22.2.1), some (.int s32.2.1), none]) (fun t52 => [.int t52]) (fun t52 => r50.2) (fun t52 => True) (fun t52 h53 => ?_) (fun J54 => ?_)
                                · refine r_istore C [some (.ref (cF Θ 0)), none, some (.int a2), some (.int a3), some (.int a4), some (.int a5), some (.int r19.1), some (.int (r19.2.1 0 17 i21)), some (.int t52), some (.int s22.2.1), some (.int s32.2.1), none] dX12_turning_199 rfl (by decide) rfl ?_
                                  refine WA.wk (lv' := [some (.ref (cF Θ 0)), none, some (.int a2), some (.int a3), some (.int a4), some (.int a5), some (.int r19.1), some (.int (r19.2.1 0 17 i21)), some (.int t52), some (.int s22.2.1), some (.int s32.2.1), none]) [true, false, true, true, true, true, true, true, true, true, true, false] rfl ?_
                                  exact J47 (t52, r50.2) trivial
                                · refine WA.bif ?_
                                  refine r_icmp_eq C 197 dX12_turning_182 (by decide) ?_ ?_
                                  · refine r_bipush C (-9 : Int32) dX12_turning_197 (by decide) ?_
                                    refine WA.wk (lv' := [some (.ref (cF Θ 0)), none, some (.int a2), some (.int a3), some (.int a4), some (.int a5), some (.int r19.1), some (.int (r19.2.1 0 17 i21)), none, some (.int s22.2.1), some (.int s32.2.1), none]) [true, false, true, true, true, true, true, true, false, true, true, false] rfl ?_
                                    exact J54 (-9 : Int32) trivial
                                  · refine r_iload C dX12_turning_185 rfl ?_
                                    refine r_sipush C (1000 : Int32) dX12_turning_187 (by decide) ?_
                                    refine r_iload C dX12_turning_190 rfl ?_
                                    refine r_imul C dX12_turning_192 ?_
                                    refine r_iadd C dX12_turning_193 ?_
                                    refine r_goto C 199 dX12_turning_194 (by decide) ?_
                                    refine WA.wk (lv' := [some (.ref (cF Θ 0)), none, some (.int a2), some (.int a3), some (.int a4), some (.int a5), some (.int r19.1), some (.int (r19.2.1 0 17 i21)), none, some (.int s22.2.1), some (.int s32.2.1), none]) [true, false, true, true, true, true, true, true, false, true, true, false] rfl ?_
                                    exact J54 (s22.2.1 + ((1000 : Int32) * s32.2.1)) trivial
                          · refine WA.bif ?_
                            refine r_if_ne C 145 dX12_turning_134 (by decide) ?_ ?_
                            · refine r_iload C dX12_turning_145 rfl ?_
                              refine r_iload C dX12_turning_147 rfl ?_
                              refine r_isub C dX12_turning_149 ?_
                              refine WA.wk (lv' := [some (.ref (cF Θ 0)), none, some (.int a2), some (.int a3), some (.int a4), some (.int a5), some (.int r19.1), some (.int (r19.2.1 0 17 i21)), some (.int s32.1), some (.int s22.2.1), some (.int s32.2.1), none]) [true, false, true, true, true, true, true, true, true, true, true, false] rfl ?_
                              exact J42 ((r19.2.1 0 17 i21) - s22.2.1) trivial
                            · refine r_iload C dX12_turning_137 rfl ?_
                              refine r_iload C dX12_turning_139 rfl ?_
                              refine r_iadd C dX12_turning_141 ?_
                              refine r_goto C 150 dX12_turning_142 (by decide) ?_
                              refine WA.wk (lv' := [some (.ref (cF Θ 0)), none, some (.int a2), some (.int a3), some (.int a4), some (.int a5), some (.int r19.1), some (.int (r19.2.1 0 17 i21)), some (.int s32.1), some (.int s22.2.1), some (.int s32.2.1), none]) [true, false, true, true, true, true, true, true, true, true, true, false] rfl ?_
                              exact J42 ((r19.2.1 0 17 i21) + s22.2.1) trivial
            · refine r_aload_n C dX12_turning_67 rfl ?_
              refine r_iload_n C dX12_turning_68 rfl ?_
              refine r_callS C (st := [.ref (cF Θ 0)]) (As := [.int a3]) dX12_turning_69 ml_X12_261 sw_X12_wrongMany (fun r55 e => c_m_wrongMany Θ.1.2.1 (cW Θ) (cAd Θ) (cN Θ) r1.2 a3 r55 e) rfl rfl (Nat.le_of_ble_eq_true rfl) ⟨rfl, rfl, by decide, by decide⟩ (fun r55 h56 => ?_)
              refine r_callV C (st := []) (As := [.int r55]) (d := 0) (j := 0) dX12_turning_72 ml_X12_174 vw_X12_refuse ⟨_, _, _, _, rfl, rfl⟩ (dm0 (by decide)) (fun r57 e => c_m_refuse Θ.1.2.1 (cW Θ) (cAd Θ) (cN Θ) r1.2 r55 r57 e) rfl rfl (Nat.le_of_ble_eq_true rfl) ⟨rfl, rfl, by decide, by decide⟩ (fun r57 h58 => ?_)
              exact r_iret C dX12_turning_75 rfl rfl trivial
          · refine r_aload_n C dX12_turning_53 rfl ?_
            refine r_bipush C (-2 : Int32) dX12_turning_54 (by decide) ?_
            refine r_callV C (st := []) (As := [.int (-2 : Int32)]) (d := 0) (j := 0) dX12_turning_56 ml_X12_174 vw_X12_refuse ⟨_, _, _, _, rfl, rfl⟩ (dm0 (by decide)) (fun r59 e => c_m_refuse Θ.1.2.1 (cW Θ) (cAd Θ) (cN Θ) r1.2 (-2 : Int32) r59 e) rfl rfl (Nat.le_of_ble_eq_true rfl) ⟨rfl, rfl, by decide, by decide⟩ (fun r59 h60 => ?_)
            exact r_iret C dX12_turning_59 rfl rfl trivial
        · refine r_aload_n C dX12_turning_37 rfl ?_
          refine r_iconst C (-1 : Int32) dX12_turning_38 (by decide) ?_
          refine r_callV C (st := []) (As := [.int (-1 : Int32)]) (d := 0) (j := 0) dX12_turning_39 ml_X12_174 vw_X12_refuse ⟨_, _, _, _, rfl, rfl⟩ (dm0 (by decide)) (fun r61 e => c_m_refuse Θ.1.2.1 (cW Θ) (cAd Θ) (cN Θ) r1.2 (-1 : Int32) r61 e) rfl rfl (Nat.le_of_ble_eq_true rfl) ⟨rfl, rfl, by decide, by decide⟩ (fun r61 h62 => ?_)
          exact r_iret C dX12_turning_42 rfl rfl trivial
theorem c_m_turning (l : Launch) (ω : Wd) (ad : Nat → Nat → Nat) (N : Nat → Nat) (σ : St) (a1 : Int32) (a2 : Int32) (a3 : Int32) (a4 : Int32) (a5 : Int32) : ∀ r : Int32 × St, m_turning σ a1 a2 a3 a4 a5 = some r → Ct l yX12_turning cX12_turning 12 (some .int) ({ frames := 6, cells := 0, slots := 0, locals := 143 } : Room) LM ω ad N [.ref (ω.2.1 0), .int a1, .int a2, .int a3, .int a4, .int a5] σ (some (.int r.1)) r.2 (True) :=
  ct_of (o := fun r : Int32 × St => (some (.int r.1))) (s' := fun r => r.2) (P := fun r => True) [some (.ref (ω.2.1 0)), some (.int a1), some (.int a2), some (.int a3), some (.int a4), some (.int a5), none, none, none, none, none, none] (by decide) rfl (Nat.le_of_ble_eq_true rfl) (fun Γ C _ _ => w_m_turning (Γ, ω, 12, ad, N, 0, 0) σ a1 a2 a3 a4 a5 C)
theorem ag_LM_45 : AG LM 45 1 40 := ⟨by decide, rfl⟩
theorem fg_X12_149 : FG LM RX12 149 0 0 65 (1, 45) := ⟨_, _, _, _, _, rfl, rfl, rfl, by decide, uw_X12, (in_wt 1299 (by decide +kernel) (by decide +kernel))⟩
/-- PostsEndModel.public int moved(int, int, int, int, int) -/
def m_moved (σ : St) (a1 : Int32) (a2 : Int32) (a3 : Int32) (a4 : Int32) (a5 : Int32) : Option (Int32 × St) := (Option.bind (m_isPool σ a1 a2) fun r1 => (if r1.1 = 0 then (Option.bind (m_refuse r1.2 (-1 : Int32)) fun r3 => some (r3.1, r3.2)) else (Option.bind (m_isTelling r1.2 a4) fun r5 => (if r5 = 0 then (Option.bind (m_refuse r1.2 (-1 : Int32)) fun r48 => some (r48.1, r48.2)) else (if a3 < 0 then (Option.bind (m_refuse r1.2 (-4 : Int32)) fun r7 => some (r7.1, r7.2)) else (if a5 < 0 then (Option.bind (m_refuse r1.2 (-4 : Int32)) fun r46 => some (r46.1, r46.2)) else (if (40 : Int32) < a3 then (Option.bind (m_refuse r1.2 (-6 : Int32)) fun r9 => some (r9.1, r9.2)) else (Option.bind (ix 120 a4) fun i11 => (Option.bind (α := Int32) ((if r1.2.1 0 20 i11 = 0 then some (100 : Int32) else some (9 : Int32))) fun t12 => (if t12 < a5 then (Option.bind (m_refuse r1.2 (-6 : Int32)) fun r44 => some (r44.1, r44.2)) else (Option.bind (itr0 (S := Int32 × St) (E := St) (fun s15 => (if s15.1 < s15.2.1 0 0 11 then (Option.bind (m_isCut s15.2 s15.1 a2 a3) fun r40 => (Option.bind (ix 40 s15.1) fun i42 => (lt1 (sx r40.2 0 45 i42 r40.1) fun σ43 => some (.inl (s15.1 + (1 : Int32), σ43))))) else some (.inr s15.2))) FU ((0 : Int32), r1.2)) fun e20 => (Option.bind (m_putRight e20 a4 a5) fun r23 => (Option.bind (itr0 (S := Int32 × Int32 × St) (E := Int32 × St) (fun s25 => (if s25.2.1 < s25.2.2.1 0 0 11 then (Option.bind (ix 40 s25.2.1) fun i34 => (Option.bind (m_isCut s25.2.2 s25.2.1 a2 a3) fun r35 => (Option.bind (α := Int32) ((if s25.2.2.1 0 45 i34 = r35.1 then some (0 : Int32) else some (1 : Int32))) fun t37 => some (.inl (s25.1 + t37, s25.2.1 + (1 : Int32), r35.2))))) else some (.inr (s25.1, s25.2.2)))) FU ((0 : Int32), (0 : Int32), r23)) fun e30 => (lt1 (sx e30.2 0 0 30 ((e30.2.1 0 0 30) - (1 : Int32))) fun σ33 => some (e30.1, σ33)))))))))))))))
set_option maxRecDepth 20000 in
set_option maxHeartbeats 4000000 in
theorem w_m_moved (Θ : TT) (σ : St) (a1 : Int32) (a2 : Int32) (a3 : Int32) (a4 : Int32) (a5 : Int32) (C : CX Θ cX12_moved RX12 (some .int) ({ frames := 6, cells := 0, slots := 0, locals := 143 } : Room) 8) : WA LM Θ (fun r : Int32 × St => Qm LM Θ (some (.int r.1)) r.2 (True)) 0 [some (.ref (cF Θ 0)), some (.int a1), some (.int a2), some (.int a3), some (.int a4), some (.int a5), none, none] [] σ (m_moved σ a1 a2 a3 a4 a5) := by
  unfold m_moved
  refine r_aload_n C dX12_moved_0 rfl ?_
  refine r_iload_n C dX12_moved_1 rfl ?_
  refine r_iload_n C dX12_moved_2 rfl ?_
  refine r_callV C (st := []) (As := [.int a1, .int a2]) (d := 0) (j := 0) dX12_moved_3 ml_X12_258 vw_X12_isPool ⟨_, _, _, _, rfl, rfl⟩ (dm0 (by decide)) (fun r1 e => c_m_isPool Θ.1.2.1 (cW Θ) (cAd Θ) (cN Θ) σ a1 a2 r1 e) rfl rfl (Nat.le_of_ble_eq_true rfl) ⟨rfl, rfl, by decide, by decide⟩ (fun r1 h2 => ?_)
  refine r_if_eq C 18 dX12_moved_6 (by decide) ?_ ?_
  · refine r_aload_n C dX12_moved_18 rfl ?_
    refine r_iconst C (-1 : Int32) dX12_moved_19 (by decide) ?_
    refine r_callV C (st := []) (As := [.int (-1 : Int32)]) (d := 0) (j := 0) dX12_moved_20 ml_X12_174 vw_X12_refuse ⟨_, _, _, _, rfl, rfl⟩ (dm0 (by decide)) (fun r3 e => c_m_refuse Θ.1.2.1 (cW Θ) (cAd Θ) (cN Θ) r1.2 (-1 : Int32) r3 e) rfl rfl (Nat.le_of_ble_eq_true rfl) ⟨rfl, rfl, by decide, by decide⟩ (fun r3 h4 => ?_)
    exact r_iret C dX12_moved_23 rfl rfl trivial
  · refine r_aload_n C dX12_moved_9 rfl ?_
    refine r_iload C dX12_moved_10 rfl ?_
    refine r_callV C (st := []) (As := [.int a4]) (d := 0) (j := 0) dX12_moved_12 ml_X12_209 vw_X12_isTelling ⟨_, _, _, _, rfl, rfl⟩ (dm0 (by decide)) (fun r5 e => c_m_isTelling Θ.1.2.1 (cW Θ) (cAd Θ) (cN Θ) r1.2 a4 r5 e) rfl rfl (Nat.le_of_ble_eq_true rfl) ⟨rfl, rfl, by decide, by decide⟩ (fun r5 h6 => ?_)
    refine r_if_ne C 24 dX12_moved_15 (by decide) ?_ ?_
    · refine r_iload_n C dX12_moved_24 rfl ?_
      refine r_if_lt C 33 dX12_moved_25 (by decide) ?_ ?_
      · refine r_aload_n C dX12_moved_33 rfl ?_
        refine r_bipush C (-4 : Int32) dX12_moved_34 (by decide) ?_
        refine r_callV C (st := []) (As := [.int (-4 : Int32)]) (d := 0) (j := 0) dX12_moved_36 ml_X12_174 vw_X12_refuse ⟨_, _, _, _, rfl, rfl⟩ (dm0 (by decide)) (fun r7 e => c_m_refuse Θ.1.2.1 (cW Θ) (cAd Θ) (cN Θ) r1.2 (-4 : Int32) r7 e) rfl rfl (Nat.le_of_ble_eq_true rfl) ⟨rfl, rfl, by decide, by decide⟩ (fun r7 h8 => ?_)
        exact r_iret C dX12_moved_39 rfl rfl trivial
      · refine r_iload C dX12_moved_28 rfl ?_
        refine r_if_ge C 40 dX12_moved_30 (by decide) ?_ ?_
        · refine r_iload_n C dX12_moved_40 rfl ?_
          refine r_bipush C (40 : Int32) dX12_moved_41 (by decide) ?_
          refine r_icmp_gt C 68 dX12_moved_43 (by decide) ?_ ?_
          · refine r_aload_n C dX12_moved_68 rfl ?_
            refine r_bipush C (-6 : Int32) dX12_moved_69 (by decide) ?_
            refine r_callV C (st := []) (As := [.int (-6 : Int32)]) (d := 0) (j := 0) dX12_moved_71 ml_X12_174 vw_X12_refuse ⟨_, _, _, _, rfl, rfl⟩ (dm0 (by decide)) (fun r9 e => c_m_refuse Θ.1.2.1 (cW Θ) (cAd Θ) (cN Θ) r1.2 (-6 : Int32) r9 e) rfl rfl (Nat.le_of_ble_eq_true rfl) ⟨rfl, rfl, by decide, by decide⟩ (fun r9 h10 => ?_)
            exact r_iret C dX12_moved_74 rfl rfl trivial
          · refine r_iload C dX12_moved_46 rfl ?_
            refine r_aload_n C dX12_moved_48 rfl ?_
            refine r_getF0 C dX12_moved_49 fg_X12_74 (by decide) ?_
            refine r_iload C dX12_moved_52 rfl ?_
            refine r_iald (α := Unit) C dX12_moved_54 ag_LM_20 (fun i11 => ?_)
            refine WA.join (α := Int32) 65 (fun t12 => [some (.ref (cF Θ 0)), none, some (.int a2), some (.int a3), some (.int a4), some (.int a5), none, none]) (fun t12 => [.int t12, .int a5]) (fun t12 => r1.2) (fun t12 => True) (fun t12 h13 => ?_) (fun J14 => ?_)
            · refine r_icmp_le C 75 dX12_moved_65 (by decide) ?_ ?_
              · refine r_iconst C (0 : Int32) dX12_moved_75 (by decide) ?_
                refine r_istore C [some (.ref (cF Θ 0)), none, some (.int a2), some (.int a3), some (.int a4), some (.int a5), some (.int (0 : Int32)), none] dX12_moved_76 rfl (by decide) rfl ?_
                refine WA.join (α := St) 108 (fun e20 => [some (.ref (cF Θ 0)), none, some (.int a2), some (.int a3), some (.int a4), some (.int a5), none, none]) (fun e20 => []) (fun e20 => e20) (fun e20 => True) (fun e20 h21 => ?_) (fun J22 => ?_)
                · refine r_aload_n C dX12_moved_108 rfl ?_
                  refine r_iload C dX12_moved_109 rfl ?_
                  refine r_iload C dX12_moved_111 rfl ?_
                  refine r_callV C (st := []) (As := [.int a4, .int a5]) (d := 0) (j := 0) dX12_moved_113 ml_X12_212 vw_X12_putRight ⟨_, _, _, _, rfl, rfl⟩ (dm0 (by decide)) (fun r23 e => c_m_putRight Θ.1.2.1 (cW Θ) (cAd Θ) (cN Θ) e20 a4 a5 r23 e) rfl rfl (Nat.le_of_ble_eq_true rfl) ⟨rfl, rfl, by decide, by decide⟩ (fun r23 h24 => ?_)
                  refine r_iconst C (0 : Int32) dX12_moved_116 (by decide) ?_
                  refine r_istore C [some (.ref (cF Θ 0)), none, some (.int a2), some (.int a3), some (.int a4), some (.int a5), some (.int (0 : Int32)), none] dX12_moved_117 rfl (by decide) rfl ?_
                  refine r_iconst C (0 : Int32) dX12_moved_119 (by decide) ?_
                  refine r_istore C [some (.ref (cF Θ 0)), none, some (.int a2), some (.int a3), some (.int a4), some (.int a5), some (.int (0 : Int32)), some (.int (0 : Int32))] dX12_moved_120 rfl (by decide) rfl ?_
                  refine WA.join (α := Int32 × St) 165 (fun e30 => [some (.ref (cF Θ 0)), none, none, none, none, none, some (.int e30.1), none]) (fun e30 => []) (fun e30 => e30.2) (fun e30 => True) (fun e30 h31 => ?_) (fun J32 => ?_)
                  · refine r_aload_n C dX12_moved_165 rfl ?_
                    refine r_dup C dX12_moved_166 rfl ?_
                    refine r_getI0 C dX12_moved_167 fg_X12_206 (by decide) ?_
                    refine r_iconst C (1 : Int32) dX12_moved_170 (by decide) ?_
                    refine r_isub C dX12_moved_171 ?_
                    refine r_putI0 C dX12_moved_172 fp_X12_206 (by decide) ?_
                    refine WA.gen (fun σ33 => ?_)
                    refine r_iload C dX12_moved_175 rfl ?_
                    exact r_iret C dX12_moved_177 rfl rfl trivial
                  · refine WA.wk (lv' := [some (.ref (cF Θ 0)), none, some (.int a2), some (.int a3), none, none, some (.int (0 : Int32)), some (.int (0 : Int32))]) [true, false, true, true, false, false, true, true] rfl ?_
                    refine WA.itr (S := Int32 × Int32 × St) 122 (fun s25 => [some (.ref (cF Θ 0)), none, some (.int a2), some (.int a3), none, none, some (.int s25.1), some (.int s25.2.1)]) (fun s25 => []) (fun s25 => s25.2.2) (fun s25 => True) (fun s25 k29 h26 ih27 hx28 => ?_) FU ((0 : Int32), (0 : Int32), r23) trivial
                    refine r_iload C dX12_moved_122 rfl ?_
                    refine r_aload_n C dX12_moved_124 rfl ?_
                    refine r_getI0 C dX12_moved_125 fg_X12_164 (by decide) ?_
                    refine WA.bif ?_
                    refine r_icmp_ge C 165 dX12_moved_128 (by decide) ?_ ?_
                    · refine WA.wk (lv' := [some (.ref (cF Θ 0)), none, none, none, none, none, some (.int s25.1), none]) [true, false, false, false, false, false, true, false] rfl ?_
                      exact WA.eqK (hx28 _) (J32 (s25.1, s25.2.2) trivial)
                    · refine r_iload C dX12_moved_131 rfl ?_
                      refine r_aload_n C dX12_moved_133 rfl ?_
                      refine r_getF0 C dX12_moved_134 fg_X12_149 (by decide) ?_
                      refine r_iload C dX12_moved_137 rfl ?_
                      refine WA.asc ?_
                      refine r_zald C dX12_moved_139 ag_LM_45 (fun i34 => ?_)
                      refine r_aload_n C dX12_moved_140 rfl ?_
                      refine r_iload C dX12_moved_141 rfl ?_
                      refine r_iload_n C dX12_moved_143 rfl ?_
                      refine r_iload_n C dX12_moved_144 rfl ?_
                      refine WA.asc ?_
                      refine r_callV C (st := [.int (s25.2.2.1 0 45 i34), .int s25.1]) (As := [.int s25.2.1, .int a2, .int a3]) (d := 0) (j := 0) dX12_moved_145 ml_X12_356 vw_X12_isCut ⟨_, _, _, _, rfl, rfl⟩ (dm0 (by decide)) (fun r35 e => c_m_isCut Θ.1.2.1 (cW Θ) (cAd Θ) (cN Θ) s25.2.2 s25.2.1 a2 a3 r35 e) rfl rfl (Nat.le_of_ble_eq_true rfl) ⟨rfl, rfl, by decide, by decide⟩ (fun r35 h36 => ?_)
                      refine WA.asc ?_
                      refine WA.join (α := Int32) 156 (fun t37 => [some (.ref (cF Θ 0)), none, some (.int a2), some (.int a3), none, none, none, some (.int s25.2.1)]) (fun t37 => [.int t37, .int s25.1]) (fun t37 => r35.2) (fun t37 => True) (fun t37 h38 => ?_) (fun J39 => ?_)
                      · refine r_iadd C dX12_moved_156 ?_
                        refine r_istore C [some (.ref (cF Θ 0)), none, some (.int a2), some (.int a3), none, none, some (.int (s25.1 + t37)), some (.int s25.2.1)] dX12_moved_157 rfl (by decide) rfl ?_
                        refine r_iinc C (1 : Int32) [some (.ref (cF Θ 0)), none, some (.int a2), some (.int a3), none, none, some (.int (s25.1 + t37)), some (.int (s25.2.1 + (1 : Int32)))] dX12_moved_159 (by decide) rfl rfl (by decide) rfl ?_
                        refine r_goto C 122 dX12_moved_162 (by decide) ?_
                        refine WA.wk (lv' := [some (.ref (cF Θ 0)), none, some (.int a2), some (.int a3), none, none, some (.int (s25.1 + t37)), some (.int (s25.2.1 + (1 : Int32)))]) [true, false, true, true, false, false, true, true] rfl ?_
                        exact ih27 (s25.1 + t37, s25.2.1 + (1 : Int32), r35.2) trivial
                      · refine WA.bif ?_
                        refine r_icmp_eq C 155 dX12_moved_148 (by decide) ?_ ?_
                        · refine r_iconst C (0 : Int32) dX12_moved_155 (by decide) ?_
                          refine WA.wk (lv' := [some (.ref (cF Θ 0)), none, some (.int a2), some (.int a3), none, none, none, some (.int s25.2.1)]) [true, false, true, true, false, false, false, true] rfl ?_
                          exact J39 (0 : Int32) trivial
                        · refine r_iconst C (1 : Int32) dX12_moved_151 (by decide) ?_
                          refine r_goto C 156 dX12_moved_152 (by decide) ?_
                          refine WA.wk (lv' := [some (.ref (cF Θ 0)), none, some (.int a2), some (.int a3), none, none, none, some (.int s25.2.1)]) [true, false, true, true, false, false, false, true] rfl ?_
                          exact J39 (1 : Int32) trivial
                · refine WA.wk (lv' := [some (.ref (cF Θ 0)), none, some (.int a2), some (.int a3), some (.int a4), some (.int a5), some (.int (0 : Int32)), none]) [true, false, true, true, true, true, true, false] rfl ?_
                  refine WA.itr (S := Int32 × St) 78 (fun s15 => [some (.ref (cF Θ 0)), none, some (.int a2), some (.int a3), some (.int a4), some (.int a5), some (.int s15.1), none]) (fun s15 => []) (fun s15 => s15.2) (fun s15 => True) (fun s15 k19 h16 ih17 hx18 => ?_) FU ((0 : Int32), r1.2) trivial
                  refine r_iload C dX12_moved_78 rfl ?_
                  refine r_aload_n C dX12_moved_80 rfl ?_
                  refine r_getI0 C dX12_moved_81 fg_X12_164 (by decide) ?_
                  refine WA.bif ?_
                  refine r_icmp_ge C 108 dX12_moved_84 (by decide) ?_ ?_
                  · refine WA.wk (lv' := [some (.ref (cF Θ 0)), none, some (.int a2), some (.int a3), some (.int a4), some (.int a5), none, none]) [true, false, true, true, true, true, false, false] rfl ?_
                    exact WA.eqK (hx18 _) (J22 s15.2 trivial)
                  · refine r_aload_n C dX12_moved_87 rfl ?_
                    refine r_getF0 C dX12_moved_88 fg_X12_149 (by decide) ?_
                    refine r_iload C dX12_moved_91 rfl ?_
                    refine r_aload_n C dX12_moved_93 rfl ?_
                    refine r_iload C dX12_moved_94 rfl ?_
                    refine r_iload_n C dX12_moved_96 rfl ?_
                    refine r_iload_n C dX12_moved_97 rfl ?_
                    refine WA.asc ?_
                    refine r_callV C (st := [.int s15.1, .ref (cF Θ 45)]) (As := [.int s15.1, .int a2, .int a3]) (d := 0) (j := 0) dX12_moved_98 ml_X12_356 vw_X12_isCut ⟨_, _, _, _, rfl, rfl⟩ (dm0 (by decide)) (fun r40 e => c_m_isCut Θ.1.2.1 (cW Θ) (cAd Θ) (cN Θ) s15.2 s15.1 a2 a3 r40 e) rfl rfl (Nat.le_of_ble_eq_true rfl) ⟨rfl, rfl, by decide, by decide⟩ (fun r40 h41 => ?_)
                    refine WA.asc ?_
                    refine r_zast C dX12_moved_101 ag_LM_45 (by unfold vp_nar; rw [h41]) (fun i42 => ?_)
                    refine WA.genB (fun σ43 => ?_)
                    refine r_iinc C (1 : Int32) [some (.ref (cF Θ 0)), none, some (.int a2), some (.int a3), some (.int a4), some (.int a5), some (.int (s15.1 + (1 : Int32))), none] dX12_moved_102 (by decide) rfl rfl (by decide) rfl ?_
                    refine r_goto C 78 dX12_moved_105 (by decide) ?_
                    refine WA.wk (lv' := [some (.ref (cF Θ 0)), none, some (.int a2), some (.int a3), some (.int a4), some (.int a5), some (.int (s15.1 + (1 : Int32))), none]) [true, false, true, true, true, true, true, false] rfl ?_
                    exact ih17 (s15.1 + (1 : Int32), σ43) trivial
              · refine r_aload_n C dX12_moved_68 rfl ?_
                refine r_bipush C (-6 : Int32) dX12_moved_69 (by decide) ?_
                refine r_callV C (st := []) (As := [.int (-6 : Int32)]) (d := 0) (j := 0) dX12_moved_71 ml_X12_174 vw_X12_refuse ⟨_, _, _, _, rfl, rfl⟩ (dm0 (by decide)) (fun r44 e => c_m_refuse Θ.1.2.1 (cW Θ) (cAd Θ) (cN Θ) r1.2 (-6 : Int32) r44 e) rfl rfl (Nat.le_of_ble_eq_true rfl) ⟨rfl, rfl, by decide, by decide⟩ (fun r44 h45 => ?_)
                exact r_iret C dX12_moved_74 rfl rfl trivial
            · refine WA.bif ?_
              refine r_if_ne C 63 dX12_moved_55 (by decide) ?_ ?_
              · refine r_bipush C (9 : Int32) dX12_moved_63 (by decide) ?_
                refine WA.wk (lv' := [some (.ref (cF Θ 0)), none, some (.int a2), some (.int a3), some (.int a4), some (.int a5), none, none]) [true, false, true, true, true, true, false, false] rfl ?_
                exact J14 (9 : Int32) trivial
              · refine r_bipush C (100 : Int32) dX12_moved_58 (by decide) ?_
                refine r_goto C 65 dX12_moved_60 (by decide) ?_
                refine WA.wk (lv' := [some (.ref (cF Θ 0)), none, some (.int a2), some (.int a3), some (.int a4), some (.int a5), none, none]) [true, false, true, true, true, true, false, false] rfl ?_
                exact J14 (100 : Int32) trivial
        · refine r_aload_n C dX12_moved_33 rfl ?_
          refine r_bipush C (-4 : Int32) dX12_moved_34 (by decide) ?_
          refine r_callV C (st := []) (As := [.int (-4 : Int32)]) (d := 0) (j := 0) dX12_moved_36 ml_X12_174 vw_X12_refuse ⟨_, _, _, _, rfl, rfl⟩ (dm0 (by decide)) (fun r46 e => c_m_refuse Θ.1.2.1 (cW Θ) (cAd Θ) (cN Θ) r1.2 (-4 : Int32) r46 e) rfl rfl (Nat.le_of_ble_eq_true rfl) ⟨rfl, rfl, by decide, by decide⟩ (fun r46 h47 => ?_)
          exact r_iret C dX12_moved_39 rfl rfl trivial
    · refine r_aload_n C dX12_moved_18 rfl ?_
      refine r_iconst C (-1 : Int32) dX12_moved_19 (by decide) ?_
      refine r_callV C (st := []) (As := [.int (-1 : Int32)]) (d := 0) (j := 0) dX12_moved_20 ml_X12_174 vw_X12_refuse ⟨_, _, _, _, rfl, rfl⟩ (dm0 (by decide)) (fun r48 e => c_m_refuse Θ.1.2.1 (cW Θ) (cAd Θ) (cN Θ) r1.2 (-1 : Int32) r48 e) rfl rfl (Nat.le_of_ble_eq_true rfl) ⟨rfl, rfl, by decide, by decide⟩ (fun r48 h49 => ?_)
      exact r_iret C dX12_moved_23 rfl rfl trivial
theorem c_m_moved (l : Launch) (ω : Wd) (ad : Nat → Nat → Nat) (N : Nat → Nat) (σ : St) (a1 : Int32) (a2 : Int32) (a3 : Int32) (a4 : Int32) (a5 : Int32) : ∀ r : Int32 × St, m_moved σ a1 a2 a3 a4 a5 = some r → Ct l yX12_moved cX12_moved 8 (some .int) ({ frames := 6, cells := 0, slots := 0, locals := 143 } : Room) LM ω ad N [.ref (ω.2.1 0), .int a1, .int a2, .int a3, .int a4, .int a5] σ (some (.int r.1)) r.2 (True) :=
  ct_of (o := fun r : Int32 × St => (some (.int r.1))) (s' := fun r => r.2) (P := fun r => True) [some (.ref (ω.2.1 0)), some (.int a1), some (.int a2), some (.int a3), some (.int a4), some (.int a5), none, none] (by decide) rfl (Nat.le_of_ble_eq_true rfl) (fun Γ C _ _ => w_m_moved (Γ, ω, 8, ad, N, 0, 0) σ a1 a2 a3 a4 a5 C)
/-- PostsEndModel.public int back(int) -/
def m_back (σ : St) (a1 : Int32) : Option (Int32 × St) := (Option.bind (m_isPost σ a1) fun r1 => (if r1 = 0 then (Option.bind (m_refuse σ (-1 : Int32)) fun r32 => some (r32.1, r32.2)) else (Option.bind (m_isVacant σ a1) fun r3 => (if r3 = 0 then (Option.bind (m_refuse σ (-3 : Int32)) fun r30 => some (r30.1, r30.2)) else (Option.bind (itr0 (S := Int32 × Int32) (E := Int32) (fun s5 => (if s5.2 < σ.1 0 0 11 then (Option.bind (ix 40 s5.2) fun i13 => (Option.bind (m_isHere σ s5.2) fun r14 => (Option.bind (α := Int32) ((if r14 = 0 then (if σ.1 0 13 i13 < 0 then some (0 : Int32) else (Option.bind (ix 40 (σ.1 0 13 i13)) fun i24 => (if σ.1 0 8 i24 < 0 then some (0 : Int32) else (Option.bind (ix 40 (σ.1 0 13 i13)) fun i25 => (if (180 : Int32) < (σ.1 0 0 0) - (σ.1 0 8 i25) then some (0 : Int32) else (Option.bind (m_areLike σ a1 (σ.1 0 13 i13)) fun r26 => (if r26 = 0 then some (0 : Int32) else (Option.bind (ix 40 s5.2) fun i28 => (Option.bind (ix 40 (σ.1 0 13 i13)) fun i29 => (if σ.1 0 14 i28 < σ.1 0 8 i29 then some (0 : Int32) else some (1 : Int32))))))))))) else some (0 : Int32))) fun t16 => (Option.bind (α := Int32) ((if t16 = 0 then some s5.1 else (if s5.1 < 0 then some s5.2 else (Option.bind (ix 40 s5.2) fun i22 => (Option.bind (ix 40 s5.1) fun i23 => (if σ.1 0 14 i22 < σ.1 0 14 i23 then some s5.2 else some s5.1)))))) fun t19 => some (.inl (t19, s5.2 + (1 : Int32))))))) else some (.inr s5.1))) FU ((-1 : Int32), (0 : Int32))) fun e10 => (if e10 < 0 then some ((-9 : Int32), σ) else some (e10, σ)))))))
set_option maxRecDepth 20000 in
set_option maxHeartbeats 4000000 in
theorem w_m_back (Θ : TT) (σ : St) (a1 : Int32) (C : CX Θ cX12_back RX12 (some .int) ({ frames := 2, cells := 0, slots := 0, locals := 46 } : Room) 6) : WA LM Θ (fun r : Int32 × St => Qm LM Θ (some (.int r.1)) r.2 (True)) 0 [some (.ref (cF Θ 0)), some (.int a1), none, none, none, none] [] σ (m_back σ a1) := by
  unfold m_back
  refine r_aload_n C dX12_back_0 rfl ?_
  refine r_iload_n C dX12_back_1 rfl ?_
  refine r_callV C (st := []) (As := [.int a1]) (d := 0) (j := 0) dX12_back_2 ml_X12_181 vw_X12_isPost ⟨_, _, _, _, rfl, rfl⟩ (dm0 (by decide)) (fun r1 e => c_m_isPost Θ.1.2.1 (cW Θ) (cAd Θ) (cN Θ) σ a1 r1 e) rfl rfl (Nat.le_of_ble_eq_true rfl) ⟨rfl, rfl, by decide, by decide⟩ (fun r1 h2 => ?_)
  refine r_if_ne C 14 dX12_back_5 (by decide) ?_ ?_
  · refine r_aload_n C dX12_back_14 rfl ?_
    refine r_iload_n C dX12_back_15 rfl ?_
    refine r_callV C (st := []) (As := [.int a1]) (d := 0) (j := 0) dX12_back_16 ml_X12_191 vw_X12_isVacant ⟨_, _, _, _, rfl, rfl⟩ (dm0 (by decide)) (fun r3 e => c_m_isVacant Θ.1.2.1 (cW Θ) (cAd Θ) (cN Θ) σ a1 r3 e) rfl rfl (Nat.le_of_ble_eq_true rfl) ⟨rfl, rfl, by decide, by decide⟩ (fun r3 h4 => ?_)
    refine r_if_ne C 29 dX12_back_19 (by decide) ?_ ?_
    · refine r_iconst C (-1 : Int32) dX12_back_29 (by decide) ?_
      refine r_istore_n C [some (.ref (cF Θ 0)), some (.int a1), some (.int (-1 : Int32)), none, none, none] dX12_back_30 rfl (by decide) rfl ?_
      refine r_iconst C (0 : Int32) dX12_back_31 (by decide) ?_
      refine r_istore_n C [some (.ref (cF Θ 0)), some (.int a1), some (.int (-1 : Int32)), some (.int (0 : Int32)), none, none] dX12_back_32 rfl (by decide) rfl ?_
      refine WA.join (α := Int32) 159 (fun e10 => [none, none, some (.int e10), none, none, none]) (fun e10 => []) (fun e10 => σ) (fun e10 => True) (fun e10 h11 => ?_) (fun J12 => ?_)
      · refine r_iload_n C dX12_back_159 rfl ?_
        refine r_if_ge C 168 dX12_back_160 (by decide) ?_ ?_
        · refine r_iload_n C dX12_back_168 rfl ?_
          exact r_iret C dX12_back_169 rfl rfl trivial
        · refine r_bipush C (-9 : Int32) dX12_back_163 (by decide) ?_
          refine r_goto C 169 dX12_back_165 (by decide) ?_
          exact r_iret C dX12_back_169 rfl rfl trivial
      · refine WA.wk (lv' := [some (.ref (cF Θ 0)), some (.int a1), some (.int (-1 : Int32)), some (.int (0 : Int32)), none, none]) [true, true, true, true, false, false] rfl ?_
        refine WA.itr (S := Int32 × Int32) 33 (fun s5 => [some (.ref (cF Θ 0)), some (.int a1), some (.int s5.1), some (.int s5.2), none, none]) (fun s5 => []) (fun s5 => σ) (fun s5 => True) (fun s5 k9 h6 ih7 hx8 => ?_) FU ((-1 : Int32), (0 : Int32)) trivial
        refine r_iload_n C dX12_back_33 rfl ?_
        refine r_aload_n C dX12_back_34 rfl ?_
        refine r_getI0 C dX12_back_35 fg_X12_164 (by decide) ?_
        refine WA.bif ?_
        refine r_icmp_ge C 159 dX12_back_38 (by decide) ?_ ?_
        · refine WA.wk (lv' := [none, none, some (.int s5.1), none, none, none]) [false, false, true, false, false, false] rfl ?_
          exact WA.eqK (hx8 _) (J12 s5.1 trivial)
        · refine r_aload_n C dX12_back_41 rfl ?_
          refine r_getF0 C dX12_back_42 fg_X12_46 (by decide) ?_
          refine r_iload_n C dX12_back_45 rfl ?_
          refine WA.asc ?_
          refine r_iald (α := Unit) C dX12_back_46 ag_LM_13 (fun i13 => ?_)
          refine r_istore C [some (.ref (cF Θ 0)), some (.int a1), some (.int s5.1), some (.int s5.2), some (.int (σ.1 0 13 i13)), none] dX12_back_47 rfl (by decide) rfl ?_
          refine r_aload_n C dX12_back_49 rfl ?_
          refine r_iload_n C dX12_back_50 rfl ?_
          refine WA.asc ?_
          refine r_callV C (st := []) (As := [.int s5.2]) (d := 0) (j := 0) dX12_back_51 ml_X12_200 vw_X12_isHere ⟨_, _, _, _, rfl, rfl⟩ (dm0 (by decide)) (fun r14 e => c_m_isHere Θ.1.2.1 (cW Θ) (cAd Θ) (cN Θ) σ s5.2 r14 e) rfl rfl (Nat.le_of_ble_eq_true rfl) ⟨rfl, rfl, by decide, by decide⟩ (fun r14 h15 => ?_)
          refine WA.asc ?_
          refine WA.join (α := Int32) 121 (fun t16 => [some (.ref (cF Θ 0)), some (.int a1), some (.int s5.1), some (.int s5.2), none, none]) (fun t16 => [.int t16]) (fun t16 => σ) (fun t16 => True) (fun t16 h17 => ?_) (fun J18 => ?_)
          · refine r_istore C [some (.ref (cF Θ 0)), some (.int a1), some (.int s5.1), some (.int s5.2), none, some (.int t16)] dX12_back_121 rfl (by decide) rfl ?_
            refine r_iload C dX12_back_123 rfl ?_
            refine WA.asc ?_
            refine WA.join (α := Int32) 152 (fun t19 => [some (.ref (cF Θ 0)), some (.int a1), none, some (.int s5.2), none, none]) (fun t19 => [.int t19]) (fun t19 => σ) (fun t19 => True) (fun t19 h20 => ?_) (fun J21 => ?_)
            · refine r_istore_n C [some (.ref (cF Θ 0)), some (.int a1), some (.int t19), some (.int s5.2), none, none] dX12_back_152 rfl (by decide) rfl ?_
              refine r_iinc C (1 : Int32) [some (.ref (cF Θ 0)), some (.int a1), some (.int t19), some (.int (s5.2 + (1 : Int32))), none, none] dX12_back_153 (by decide) rfl rfl (by decide) rfl ?_
              refine r_goto C 33 dX12_back_156 (by decide) ?_
              refine WA.wk (lv' := [some (.ref (cF Θ 0)), some (.int a1), some (.int t19), some (.int (s5.2 + (1 : Int32))), none, none]) [true, true, true, true, false, false] rfl ?_
              exact ih7 (t19, s5.2 + (1 : Int32)) trivial
            · refine WA.bif ?_
              refine r_if_eq C 151 dX12_back_125 (by decide) ?_ ?_
              · refine r_iload_n C dX12_back_151 rfl ?_
                refine WA.wk (lv' := [some (.ref (cF Θ 0)), some (.int a1), none, some (.int s5.2), none, none]) [true, true, false, true, false, false] rfl ?_
                exact J21 s5.1 trivial
              · refine r_iload_n C dX12_back_128 rfl ?_
                refine WA.bif ?_
                refine r_if_lt C 147 dX12_back_129 (by decide) ?_ ?_
                · refine r_iload_n C dX12_back_147 rfl ?_
                  refine r_goto C 152 dX12_back_148 (by decide) ?_
                  refine WA.wk (lv' := [some (.ref (cF Θ 0)), some (.int a1), none, some (.int s5.2), none, none]) [true, true, false, true, false, false] rfl ?_
                  exact J21 s5.2 trivial
                · refine r_aload_n C dX12_back_132 rfl ?_
                  refine r_getF0 C dX12_back_133 fg_X12_49 (by decide) ?_
                  refine r_iload_n C dX12_back_136 rfl ?_
                  refine WA.asc ?_
                  refine r_iald (α := Unit) C dX12_back_137 ag_LM_14 (fun i22 => ?_)
                  refine r_aload_n C dX12_back_138 rfl ?_
                  refine r_getF0 C dX12_back_139 fg_X12_49 (by decide) ?_
                  refine r_iload_n C dX12_back_142 rfl ?_
                  refine WA.asc ?_
                  refine r_iald (α := Unit) C dX12_back_143 ag_LM_14 (fun i23 => ?_)
                  refine WA.bif ?_
                  refine r_icmp_ge C 151 dX12_back_144 (by decide) ?_ ?_
                  · refine r_iload_n C dX12_back_151 rfl ?_
                    refine WA.wk (lv' := [some (.ref (cF Θ 0)), some (.int a1), none, some (.int s5.2), none, none]) [true, true, false, true, false, false] rfl ?_
                    exact J21 s5.1 trivial
                  · refine r_iload_n C dX12_back_147 rfl ?_
                    refine r_goto C 152 dX12_back_148 (by decide) ?_
                    refine WA.wk (lv' := [some (.ref (cF Θ 0)), some (.int a1), none, some (.int s5.2), none, none]) [true, true, false, true, false, false] rfl ?_
                    exact J21 s5.2 trivial
          · refine WA.bif ?_
            refine r_if_ne C 120 dX12_back_54 (by decide) ?_ ?_
            · refine r_iconst C (0 : Int32) dX12_back_120 (by decide) ?_
              refine WA.wk (lv' := [some (.ref (cF Θ 0)), some (.int a1), some (.int s5.1), some (.int s5.2), none, none]) [true, true, true, true, false, false] rfl ?_
              exact J18 (0 : Int32) trivial
            · refine r_iload C dX12_back_57 rfl ?_
              refine WA.bif ?_
              refine r_if_lt C 120 dX12_back_59 (by decide) ?_ ?_
              · refine r_iconst C (0 : Int32) dX12_back_120 (by decide) ?_
                refine WA.wk (lv' := [some (.ref (cF Θ 0)), some (.int a1), some (.int s5.1), some (.int s5.2), none, none]) [true, true, true, true, false, false] rfl ?_
                exact J18 (0 : Int32) trivial
              · refine r_aload_n C dX12_back_62 rfl ?_
                refine r_getF0 C dX12_back_63 fg_X12_31 (by decide) ?_
                refine r_iload C dX12_back_66 rfl ?_
                refine WA.asc ?_
                refine r_iald (α := Unit) C dX12_back_68 ag_LM_8 (fun i24 => ?_)
                refine WA.bif ?_
                refine r_if_lt C 120 dX12_back_69 (by decide) ?_ ?_
                · refine r_iconst C (0 : Int32) dX12_back_120 (by decide) ?_
                  refine WA.wk (lv' := [some (.ref (cF Θ 0)), some (.int a1), some (.int s5.1), some (.int s5.2), none, none]) [true, true, true, true, false, false] rfl ?_
                  exact J18 (0 : Int32) trivial
                · refine r_aload_n C dX12_back_72 rfl ?_
                  refine r_getI0 C dX12_back_73 fg_X12_167 (by decide) ?_
                  refine r_aload_n C dX12_back_76 rfl ?_
                  refine r_getF0 C dX12_back_77 fg_X12_31 (by decide) ?_
                  refine r_iload C dX12_back_80 rfl ?_
                  refine WA.asc ?_
                  refine r_iald (α := Unit) C dX12_back_82 ag_LM_8 (fun i25 => ?_)
                  refine r_isub C dX12_back_83 ?_
                  refine r_sipush C (180 : Int32) dX12_back_84 (by decide) ?_
                  refine WA.bif ?_
                  refine r_icmp_gt C 120 dX12_back_87 (by decide) ?_ ?_
                  · refine r_iconst C (0 : Int32) dX12_back_120 (by decide) ?_
                    refine WA.wk (lv' := [some (.ref (cF Θ 0)), some (.int a1), some (.int s5.1), some (.int s5.2), none, none]) [true, true, true, true, false, false] rfl ?_
                    exact J18 (0 : Int32) trivial
                  · refine r_aload_n C dX12_back_90 rfl ?_
                    refine r_iload_n C dX12_back_91 rfl ?_
                    refine r_iload C dX12_back_92 rfl ?_
                    refine WA.asc ?_
                    refine r_callV C (st := []) (As := [.int a1, .int (σ.1 0 13 i13)]) (d := 0) (j := 0) dX12_back_94 ml_X12_240 vw_X12_areLike ⟨_, _, _, _, rfl, rfl⟩ (dm0 (by decide)) (fun r26 e => c_m_areLike Θ.1.2.1 (cW Θ) (cAd Θ) (cN Θ) σ a1 (σ.1 0 13 i13) r26 e) rfl rfl (Nat.le_of_ble_eq_true rfl) ⟨rfl, rfl, by decide, by decide⟩ (fun r26 h27 => ?_)
                    refine WA.bif ?_
                    refine r_if_eq C 120 dX12_back_97 (by decide) ?_ ?_
                    · refine r_iconst C (0 : Int32) dX12_back_120 (by decide) ?_
                      refine WA.wk (lv' := [some (.ref (cF Θ 0)), some (.int a1), some (.int s5.1), some (.int s5.2), none, none]) [true, true, true, true, false, false] rfl ?_
                      exact J18 (0 : Int32) trivial
                    · refine r_aload_n C dX12_back_100 rfl ?_
                      refine r_getF0 C dX12_back_101 fg_X12_49 (by decide) ?_
                      refine r_iload_n C dX12_back_104 rfl ?_
                      refine WA.asc ?_
                      refine r_iald (α := Unit) C dX12_back_105 ag_LM_14 (fun i28 => ?_)
                      refine r_aload_n C dX12_back_106 rfl ?_
                      refine r_getF0 C dX12_back_107 fg_X12_31 (by decide) ?_
                      refine r_iload C dX12_back_110 rfl ?_
                      refine WA.asc ?_
                      refine r_iald (α := Unit) C dX12_back_112 ag_LM_8 (fun i29 => ?_)
                      refine WA.bif ?_
                      refine r_icmp_lt C 120 dX12_back_113 (by decide) ?_ ?_
                      · refine r_iconst C (0 : Int32) dX12_back_120 (by decide) ?_
                        refine WA.wk (lv' := [some (.ref (cF Θ 0)), some (.int a1), some (.int s5.1), some (.int s5.2), none, none]) [true, true, true, true, false, false] rfl ?_
                        exact J18 (0 : Int32) trivial
                      · refine r_iconst C (1 : Int32) dX12_back_116 (by decide) ?_
                        refine r_goto C 121 dX12_back_117 (by decide) ?_
                        refine WA.wk (lv' := [some (.ref (cF Θ 0)), some (.int a1), some (.int s5.1), some (.int s5.2), none, none]) [true, true, true, true, false, false] rfl ?_
                        exact J18 (1 : Int32) trivial
    · refine r_aload_n C dX12_back_22 rfl ?_
      refine r_bipush C (-3 : Int32) dX12_back_23 (by decide) ?_
      refine r_callV C (st := []) (As := [.int (-3 : Int32)]) (d := 0) (j := 0) dX12_back_25 ml_X12_174 vw_X12_refuse ⟨_, _, _, _, rfl, rfl⟩ (dm0 (by decide)) (fun r30 e => c_m_refuse Θ.1.2.1 (cW Θ) (cAd Θ) (cN Θ) σ (-3 : Int32) r30 e) rfl rfl (Nat.le_of_ble_eq_true rfl) ⟨rfl, rfl, by decide, by decide⟩ (fun r30 h31 => ?_)
      exact r_iret C dX12_back_28 rfl rfl trivial
  · refine r_aload_n C dX12_back_8 rfl ?_
    refine r_iconst C (-1 : Int32) dX12_back_9 (by decide) ?_
    refine r_callV C (st := []) (As := [.int (-1 : Int32)]) (d := 0) (j := 0) dX12_back_10 ml_X12_174 vw_X12_refuse ⟨_, _, _, _, rfl, rfl⟩ (dm0 (by decide)) (fun r32 e => c_m_refuse Θ.1.2.1 (cW Θ) (cAd Θ) (cN Θ) σ (-1 : Int32) r32 e) rfl rfl (Nat.le_of_ble_eq_true rfl) ⟨rfl, rfl, by decide, by decide⟩ (fun r32 h33 => ?_)
    exact r_iret C dX12_back_13 rfl rfl trivial
theorem c_m_back (l : Launch) (ω : Wd) (ad : Nat → Nat → Nat) (N : Nat → Nat) (σ : St) (a1 : Int32) : ∀ r : Int32 × St, m_back σ a1 = some r → Ct l yX12_back cX12_back 6 (some .int) ({ frames := 2, cells := 0, slots := 0, locals := 46 } : Room) LM ω ad N [.ref (ω.2.1 0), .int a1] σ (some (.int r.1)) r.2 (True) :=
  ct_of (o := fun r : Int32 × St => (some (.int r.1))) (s' := fun r => r.2) (P := fun r => True) [some (.ref (ω.2.1 0)), some (.int a1), none, none, none, none] (by decide) rfl (Nat.le_of_ble_eq_true rfl) (fun Γ C _ _ => w_m_back (Γ, ω, 6, ad, N, 0, 0) σ a1 C)
/-- PostsEndModel.public int count(int) -/
def m_count (σ : St) (a1 : Int32) : Option Int32 := (if a1 = (0 : Int32) then some (σ.1 0 0 0) else (if a1 = (1 : Int32) then some (σ.1 0 0 1) else (if a1 = (2 : Int32) then some (σ.1 0 0 4) else (if a1 = (3 : Int32) then (Option.bind (itr0 (S := Int32 × Int32) (E := Int32) (fun s5 => (if s5.2 < σ.1 0 0 4 then (Option.bind (α := Int32) ((if a1 = (3 : Int32) then (Option.bind (ix 40 s5.2) fun i18 => (if σ.1 0 8 i18 < 0 then some (1 : Int32) else some (0 : Int32))) else (Option.bind (m_isVacant σ s5.2) fun r16 => (if r16 = 0 then some (0 : Int32) else some (1 : Int32))))) fun t13 => some (.inl (s5.1 + t13, s5.2 + (1 : Int32)))) else some (.inr s5.1))) FU ((0 : Int32), (0 : Int32))) fun e10 => some e10) else (if a1 = (4 : Int32) then (Option.bind (itr0 (S := Int32 × Int32) (E := Int32) (fun s20 => (if s20.2 < σ.1 0 0 4 then (Option.bind (α := Int32) ((if a1 = (3 : Int32) then (Option.bind (ix 40 s20.2) fun i33 => (if σ.1 0 8 i33 < 0 then some (1 : Int32) else some (0 : Int32))) else (Option.bind (m_isVacant σ s20.2) fun r31 => (if r31 = 0 then some (0 : Int32) else some (1 : Int32))))) fun t28 => some (.inl (s20.1 + t28, s20.2 + (1 : Int32)))) else some (.inr s20.1))) FU ((0 : Int32), (0 : Int32))) fun e25 => some e25) else (if a1 = (5 : Int32) then some (σ.1 0 0 11) else (if a1 = (6 : Int32) then (Option.bind (itr0 (S := Int32 × Int32) (E := Int32) (fun s36 => (if s36.2 < σ.1 0 0 11 then (Option.bind (m_isHere σ s36.2) fun r44 => (Option.bind (α := Int32) ((if r44 = 0 then some (0 : Int32) else (if a1 = (6 : Int32) then some (1 : Int32) else (Option.bind (ix 40 s36.2) fun i49 => (if σ.1 0 16 i49 < 0 then some (0 : Int32) else some (1 : Int32)))))) fun t46 => some (.inl (s36.1 + t46, s36.2 + (1 : Int32))))) else some (.inr s36.1))) FU ((0 : Int32), (0 : Int32))) fun e41 => some e41) else (if a1 = (7 : Int32) then some (σ.1 0 0 25) else (if a1 = (8 : Int32) then some (σ.1 0 0 30) else (if a1 = (9 : Int32) then (Option.bind (itr0 (S := Int32 × Int32) (E := Int32) (fun s53 => (if s53.2 < σ.1 0 0 11 then (Option.bind (m_isHere σ s53.2) fun r61 => (Option.bind (α := Int32) ((if r61 = 0 then some (0 : Int32) else (if a1 = (6 : Int32) then some (1 : Int32) else (Option.bind (ix 40 s53.2) fun i66 => (if σ.1 0 16 i66 < 0 then some (0 : Int32) else some (1 : Int32)))))) fun t63 => some (.inl (s53.1 + t63, s53.2 + (1 : Int32))))) else some (.inr s53.1))) FU ((0 : Int32), (0 : Int32))) fun e58 => some e58) else (if a1 = (10 : Int32) then some (σ.1 0 0 53) else (Option.bind (m_in a1 (11 : Int32) (16 : Int32)) fun r68 => (if r68 = 0 then some (-9 : Int32) else (Option.bind (ix 7 (a1 - (10 : Int32))) fun i70 => some (σ.1 0 18 i70)))))))))))))))
set_option maxRecDepth 20000 in
set_option maxHeartbeats 4000000 in
theorem w_m_count (Θ : TT) (σ : St) (a1 : Int32) (C : CX Θ cX12_count RX12 (some .int) ({ frames := 2, cells := 0, slots := 0, locals := 43 } : Room) 4) : WA LM Θ (fun r : Int32 => Qm LM Θ (some (.int r)) σ (True)) 0 [some (.ref (cF Θ 0)), some (.int a1), none, none] [] σ (m_count σ a1) := by
  unfold m_count
  refine r_iconst C (0 : Int32) dX12_count_0 (by decide) ?_
  refine r_istore_n C [some (.ref (cF Θ 0)), some (.int a1), some (.int (0 : Int32)), none] dX12_count_1 rfl (by decide) rfl ?_
  refine r_iload_n C dX12_count_2 rfl ?_
  refine WA.cas (v := (0 : Int32)) ?_ (fun h1 => ?_)
  · refine r_tabIn C 60 dX12_count_3 (by decide) (by decide) rfl (by decide) ?_
    refine r_aload_n C dX12_count_60 rfl ?_
    refine r_getI0 C dX12_count_61 fg_X12_167 (by decide) ?_
    exact r_iret C dX12_count_64 rfl rfl trivial
  refine WA.cas (v := (1 : Int32)) ?_ (fun h2 => ?_)
  · refine r_tabIn C 65 dX12_count_3 (by decide) (by decide) rfl (by decide) ?_
    refine r_aload_n C dX12_count_65 rfl ?_
    refine r_getI0 C dX12_count_66 fg_X12_154 (by decide) ?_
    exact r_iret C dX12_count_69 rfl rfl trivial
  refine WA.cas (v := (2 : Int32)) ?_ (fun h3 => ?_)
  · refine r_tabIn C 70 dX12_count_3 (by decide) (by decide) rfl (by decide) ?_
    refine r_aload_n C dX12_count_70 rfl ?_
    refine r_getI0 C dX12_count_71 fg_X12_161 (by decide) ?_
    exact r_iret C dX12_count_74 rfl rfl trivial
  refine WA.cas (v := (3 : Int32)) ?_ (fun h4 => ?_)
  · refine r_tabIn C 75 dX12_count_3 (by decide) (by decide) rfl (by decide) ?_
    refine r_iconst C (0 : Int32) dX12_count_75 (by decide) ?_
    refine r_istore_n C [some (.ref (cF Θ 0)), some (.int a1), some (.int (0 : Int32)), some (.int (0 : Int32))] dX12_count_76 rfl (by decide) rfl ?_
    refine WA.join (α := Int32) 124 (fun e10 => [none, none, some (.int e10), none]) (fun e10 => []) (fun e10 => σ) (fun e10 => True) (fun e10 h11 => ?_) (fun J12 => ?_)
    · refine r_iload_n C dX12_count_124 rfl ?_
      exact r_iret C dX12_count_125 rfl rfl trivial
    · refine WA.wk (lv' := [some (.ref (cF Θ 0)), some (.int a1), some (.int (0 : Int32)), some (.int (0 : Int32))]) [true, true, true, true] rfl ?_
      refine WA.itr (S := Int32 × Int32) 77 (fun s5 => [some (.ref (cF Θ 0)), some (.int a1), some (.int s5.1), some (.int s5.2)]) (fun s5 => []) (fun s5 => σ) (fun s5 => True) (fun s5 k9 h6 ih7 hx8 => ?_) FU ((0 : Int32), (0 : Int32)) trivial
      refine r_iload_n C dX12_count_77 rfl ?_
      refine r_aload_n C dX12_count_78 rfl ?_
      refine r_getI0 C dX12_count_79 fg_X12_161 (by decide) ?_
      refine WA.bif ?_
      refine r_icmp_ge C 124 dX12_count_82 (by decide) ?_ ?_
      · refine WA.wk (lv' := [none, none, some (.int s5.1), none]) [false, false, true, false] rfl ?_
        exact WA.eqK (hx8 _) (J12 s5.1 trivial)
      · refine r_iload_n C dX12_count_85 rfl ?_
        refine r_iload_n C dX12_count_86 rfl ?_
        refine r_iconst C (3 : Int32) dX12_count_87 (by decide) ?_
        refine WA.asc ?_
        refine WA.join (α := Int32) 116 (fun t13 => [some (.ref (cF Θ 0)), some (.int a1), none, some (.int s5.2)]) (fun t13 => [.int t13, .int s5.1]) (fun t13 => σ) (fun t13 => True) (fun t13 h14 => ?_) (fun J15 => ?_)
        · refine r_iadd C dX12_count_116 ?_
          refine r_istore_n C [some (.ref (cF Θ 0)), some (.int a1), some (.int (s5.1 + t13)), some (.int s5.2)] dX12_count_117 rfl (by decide) rfl ?_
          refine r_iinc C (1 : Int32) [some (.ref (cF Θ 0)), some (.int a1), some (.int (s5.1 + t13)), some (.int (s5.2 + (1 : Int32)))] dX12_count_118 (by decide) rfl rfl (by decide) rfl ?_
          refine r_goto C 77 dX12_count_121 (by decide) ?_
          refine WA.wk (lv' := [some (.ref (cF Θ 0)), some (.int a1), some (.int (s5.1 + t13)), some (.int (s5.2 + (1 : Int32)))]) [true, true, true, true] rfl ?_
          exact ih7 (s5.1 + t13, s5.2 + (1 : Int32)) trivial
        · refine WA.bif ?_
          refine r_icmp_ne C 103 dX12_count_88 (by decide) ?_ ?_
          · refine r_aload_n C dX12_count_103 rfl ?_
            refine r_iload_n C dX12_count_104 rfl ?_
            refine WA.asc ?_
            refine r_callV C (st := [.int s5.1]) (As := [.int s5.2]) (d := 0) (j := 0) dX12_count_105 ml_X12_191 vw_X12_isVacant ⟨_, _, _, _, rfl, rfl⟩ (dm0 (by decide)) (fun r16 e => c_m_isVacant Θ.1.2.1 (cW Θ) (cAd Θ) (cN Θ) σ s5.2 r16 e) rfl rfl (Nat.le_of_ble_eq_true rfl) ⟨rfl, rfl, by decide, by decide⟩ (fun r16 h17 => ?_)
            refine WA.bif ?_
            refine r_if_eq C 115 dX12_count_108 (by decide) ?_ ?_
            · refine r_iconst C (0 : Int32) dX12_count_115 (by decide) ?_
              refine WA.wk (lv' := [some (.ref (cF Θ 0)), some (.int a1), none, some (.int s5.2)]) [true, true, false, true] rfl ?_
              exact J15 (0 : Int32) trivial
            · refine r_iconst C (1 : Int32) dX12_count_111 (by decide) ?_
              refine r_goto C 116 dX12_count_112 (by decide) ?_
              refine WA.wk (lv' := [some (.ref (cF Θ 0)), some (.int a1), none, some (.int s5.2)]) [true, true, false, true] rfl ?_
              exact J15 (1 : Int32) trivial
          · refine r_aload_n C dX12_count_91 rfl ?_
            refine r_getF0 C dX12_count_92 fg_X12_31 (by decide) ?_
            refine r_iload_n C dX12_count_95 rfl ?_
            refine WA.asc ?_
            refine r_iald (α := Unit) C dX12_count_96 ag_LM_8 (fun i18 => ?_)
            refine WA.bif ?_
            refine r_if_ge C 115 dX12_count_97 (by decide) ?_ ?_
            · refine r_iconst C (0 : Int32) dX12_count_115 (by decide) ?_
              refine WA.wk (lv' := [some (.ref (cF Θ 0)), some (.int a1), none, some (.int s5.2)]) [true, true, false, true] rfl ?_
              exact J15 (0 : Int32) trivial
            · refine r_goto C 111 dX12_count_100 (by decide) ?_
              refine r_iconst C (1 : Int32) dX12_count_111 (by decide) ?_
              refine r_goto C 116 dX12_count_112 (by decide) ?_
              refine WA.wk (lv' := [some (.ref (cF Θ 0)), some (.int a1), none, some (.int s5.2)]) [true, true, false, true] rfl ?_
              exact J15 (1 : Int32) trivial
  refine WA.cas (v := (4 : Int32)) ?_ (fun h19 => ?_)
  · refine r_tabIn C 75 dX12_count_3 (by decide) (by decide) rfl (by decide) ?_
    refine r_iconst C (0 : Int32) dX12_count_75 (by decide) ?_
    refine r_istore_n C [some (.ref (cF Θ 0)), some (.int a1), some (.int (0 : Int32)), some (.int (0 : Int32))] dX12_count_76 rfl (by decide) rfl ?_
    refine WA.join (α := Int32) 124 (fun e25 => [none, none, some (.int e25), none]) (fun e25 => []) (fun e25 => σ) (fun e25 => True) (fun e25 h26 => ?_) (fun J27 => ?_)
    · refine r_iload_n C dX12_count_124 rfl ?_
      exact r_iret C dX12_count_125 rfl rfl trivial
    · refine WA.wk (lv' := [some (.ref (cF Θ 0)), some (.int a1), some (.int (0 : Int32)), some (.int (0 : Int32))]) [true, true, true, true] rfl ?_
      refine WA.itr (S := Int32 × Int32) 77 (fun s20 => [some (.ref (cF Θ 0)), some (.int a1), some (.int s20.1), some (.int s20.2)]) (fun s20 => []) (fun s20 => σ) (fun s20 => True) (fun s20 k24 h21 ih22 hx23 => ?_) FU ((0 : Int32), (0 : Int32)) trivial
      refine r_iload_n C dX12_count_77 rfl ?_
      refine r_aload_n C dX12_count_78 rfl ?_
      refine r_getI0 C dX12_count_79 fg_X12_161 (by decide) ?_
      refine WA.bif ?_
      refine r_icmp_ge C 124 dX12_count_82 (by decide) ?_ ?_
      · refine WA.wk (lv' := [none, none, some (.int s20.1), none]) [false, false, true, false] rfl ?_
        exact WA.eqK (hx23 _) (J27 s20.1 trivial)
      · refine r_iload_n C dX12_count_85 rfl ?_
        refine r_iload_n C dX12_count_86 rfl ?_
        refine r_iconst C (3 : Int32) dX12_count_87 (by decide) ?_
        refine WA.asc ?_
        refine WA.join (α := Int32) 116 (fun t28 => [some (.ref (cF Θ 0)), some (.int a1), none, some (.int s20.2)]) (fun t28 => [.int t28, .int s20.1]) (fun t28 => σ) (fun t28 => True) (fun t28 h29 => ?_) (fun J30 => ?_)
        · refine r_iadd C dX12_count_116 ?_
          refine r_istore_n C [some (.ref (cF Θ 0)), some (.int a1), some (.int (s20.1 + t28)), some (.int s20.2)] dX12_count_117 rfl (by decide) rfl ?_
          refine r_iinc C (1 : Int32) [some (.ref (cF Θ 0)), some (.int a1), some (.int (s20.1 + t28)), some (.int (s20.2 + (1 : Int32)))] dX12_count_118 (by decide) rfl rfl (by decide) rfl ?_
          refine r_goto C 77 dX12_count_121 (by decide) ?_
          refine WA.wk (lv' := [some (.ref (cF Θ 0)), some (.int a1), some (.int (s20.1 + t28)), some (.int (s20.2 + (1 : Int32)))]) [true, true, true, true] rfl ?_
          exact ih22 (s20.1 + t28, s20.2 + (1 : Int32)) trivial
        · refine WA.bif ?_
          refine r_icmp_ne C 103 dX12_count_88 (by decide) ?_ ?_
          · refine r_aload_n C dX12_count_103 rfl ?_
            refine r_iload_n C dX12_count_104 rfl ?_
            refine WA.asc ?_
            refine r_callV C (st := [.int s20.1]) (As := [.int s20.2]) (d := 0) (j := 0) dX12_count_105 ml_X12_191 vw_X12_isVacant ⟨_, _, _, _, rfl, rfl⟩ (dm0 (by decide)) (fun r31 e => c_m_isVacant Θ.1.2.1 (cW Θ) (cAd Θ) (cN Θ) σ s20.2 r31 e) rfl rfl (Nat.le_of_ble_eq_true rfl) ⟨rfl, rfl, by decide, by decide⟩ (fun r31 h32 => ?_)
            refine WA.bif ?_
            refine r_if_eq C 115 dX12_count_108 (by decide) ?_ ?_
            · refine r_iconst C (0 : Int32) dX12_count_115 (by decide) ?_
              refine WA.wk (lv' := [some (.ref (cF Θ 0)), some (.int a1), none, some (.int s20.2)]) [true, true, false, true] rfl ?_
              exact J30 (0 : Int32) trivial
            · refine r_iconst C (1 : Int32) dX12_count_111 (by decide) ?_
              refine r_goto C 116 dX12_count_112 (by decide) ?_
              refine WA.wk (lv' := [some (.ref (cF Θ 0)), some (.int a1), none, some (.int s20.2)]) [true, true, false, true] rfl ?_
              exact J30 (1 : Int32) trivial
          · refine r_aload_n C dX12_count_91 rfl ?_
            refine r_getF0 C dX12_count_92 fg_X12_31 (by decide) ?_
            refine r_iload_n C dX12_count_95 rfl ?_
            refine WA.asc ?_
            refine r_iald (α := Unit) C dX12_count_96 ag_LM_8 (fun i33 => ?_)
            refine WA.bif ?_
            refine r_if_ge C 115 dX12_count_97 (by decide) ?_ ?_
            · refine r_iconst C (0 : Int32) dX12_count_115 (by decide) ?_
              refine WA.wk (lv' := [some (.ref (cF Θ 0)), some (.int a1), none, some (.int s20.2)]) [true, true, false, true] rfl ?_
              exact J30 (0 : Int32) trivial
            · refine r_goto C 111 dX12_count_100 (by decide) ?_
              refine r_iconst C (1 : Int32) dX12_count_111 (by decide) ?_
              refine r_goto C 116 dX12_count_112 (by decide) ?_
              refine WA.wk (lv' := [some (.ref (cF Θ 0)), some (.int a1), none, some (.int s20.2)]) [true, true, false, true] rfl ?_
              exact J30 (1 : Int32) trivial
  refine WA.cas (v := (5 : Int32)) ?_ (fun h34 => ?_)
  · refine r_tabIn C 126 dX12_count_3 (by decide) (by decide) rfl (by decide) ?_
    refine r_aload_n C dX12_count_126 rfl ?_
    refine r_getI0 C dX12_count_127 fg_X12_164 (by decide) ?_
    exact r_iret C dX12_count_130 rfl rfl trivial
  refine WA.cas (v := (6 : Int32)) ?_ (fun h35 => ?_)
  · refine r_tabIn C 131 dX12_count_3 (by decide) (by decide) rfl (by decide) ?_
    refine r_iconst C (0 : Int32) dX12_count_131 (by decide) ?_
    refine r_istore_n C [some (.ref (cF Θ 0)), some (.int a1), some (.int (0 : Int32)), some (.int (0 : Int32))] dX12_count_132 rfl (by decide) rfl ?_
    refine WA.join (α := Int32) 178 (fun e41 => [none, none, some (.int e41), none]) (fun e41 => []) (fun e41 => σ) (fun e41 => True) (fun e41 h42 => ?_) (fun J43 => ?_)
    · refine r_iload_n C dX12_count_178 rfl ?_
      exact r_iret C dX12_count_179 rfl rfl trivial
    · refine WA.wk (lv' := [some (.ref (cF Θ 0)), some (.int a1), some (.int (0 : Int32)), some (.int (0 : Int32))]) [true, true, true, true] rfl ?_
      refine WA.itr (S := Int32 × Int32) 133 (fun s36 => [some (.ref (cF Θ 0)), some (.int a1), some (.int s36.1), some (.int s36.2)]) (fun s36 => []) (fun s36 => σ) (fun s36 => True) (fun s36 k40 h37 ih38 hx39 => ?_) FU ((0 : Int32), (0 : Int32)) trivial
      refine r_iload_n C dX12_count_133 rfl ?_
      refine r_aload_n C dX12_count_134 rfl ?_
      refine r_getI0 C dX12_count_135 fg_X12_164 (by decide) ?_
      refine WA.bif ?_
      refine r_icmp_ge C 178 dX12_count_138 (by decide) ?_ ?_
      · refine WA.wk (lv' := [none, none, some (.int s36.1), none]) [false, false, true, false] rfl ?_
        exact WA.eqK (hx39 _) (J43 s36.1 trivial)
      · refine r_iload_n C dX12_count_141 rfl ?_
        refine r_aload_n C dX12_count_142 rfl ?_
        refine r_iload_n C dX12_count_143 rfl ?_
        refine WA.asc ?_
        refine r_callV C (st := [.int s36.1]) (As := [.int s36.2]) (d := 0) (j := 0) dX12_count_144 ml_X12_200 vw_X12_isHere ⟨_, _, _, _, rfl, rfl⟩ (dm0 (by decide)) (fun r44 e => c_m_isHere Θ.1.2.1 (cW Θ) (cAd Θ) (cN Θ) σ s36.2 r44 e) rfl rfl (Nat.le_of_ble_eq_true rfl) ⟨rfl, rfl, by decide, by decide⟩ (fun r44 h45 => ?_)
        refine WA.asc ?_
        refine WA.join (α := Int32) 170 (fun t46 => [some (.ref (cF Θ 0)), some (.int a1), none, some (.int s36.2)]) (fun t46 => [.int t46, .int s36.1]) (fun t46 => σ) (fun t46 => True) (fun t46 h47 => ?_) (fun J48 => ?_)
        · refine r_iadd C dX12_count_170 ?_
          refine r_istore_n C [some (.ref (cF Θ 0)), some (.int a1), some (.int (s36.1 + t46)), some (.int s36.2)] dX12_count_171 rfl (by decide) rfl ?_
          refine r_iinc C (1 : Int32) [some (.ref (cF Θ 0)), some (.int a1), some (.int (s36.1 + t46)), some (.int (s36.2 + (1 : Int32)))] dX12_count_172 (by decide) rfl rfl (by decide) rfl ?_
          refine r_goto C 133 dX12_count_175 (by decide) ?_
          refine WA.wk (lv' := [some (.ref (cF Θ 0)), some (.int a1), some (.int (s36.1 + t46)), some (.int (s36.2 + (1 : Int32)))]) [true, true, true, true] rfl ?_
          exact ih38 (s36.1 + t46, s36.2 + (1 : Int32)) trivial
        · refine WA.bif ?_
          refine r_if_eq C 169 dX12_count_147 (by decide) ?_ ?_
          · refine r_iconst C (0 : Int32) dX12_count_169 (by decide) ?_
            refine WA.wk (lv' := [some (.ref (cF Θ 0)), some (.int a1), none, some (.int s36.2)]) [true, true, false, true] rfl ?_
            exact J48 (0 : Int32) trivial
          · refine r_iload_n C dX12_count_150 rfl ?_
            refine r_bipush C (6 : Int32) dX12_count_151 (by decide) ?_
            refine WA.bif ?_
            refine r_icmp_eq C 165 dX12_count_153 (by decide) ?_ ?_
            · refine r_iconst C (1 : Int32) dX12_count_165 (by decide) ?_
              refine r_goto C 170 dX12_count_166 (by decide) ?_
              refine WA.wk (lv' := [some (.ref (cF Θ 0)), some (.int a1), none, some (.int s36.2)]) [true, true, false, true] rfl ?_
              exact J48 (1 : Int32) trivial
            · refine r_aload_n C dX12_count_156 rfl ?_
              refine r_getF0 C dX12_count_157 fg_X12_55 (by decide) ?_
              refine r_iload_n C dX12_count_160 rfl ?_
              refine WA.asc ?_
              refine r_iald (α := Unit) C dX12_count_161 ag_LM_16 (fun i49 => ?_)
              refine WA.bif ?_
              refine r_if_lt C 169 dX12_count_162 (by decide) ?_ ?_
              · refine r_iconst C (0 : Int32) dX12_count_169 (by decide) ?_
                refine WA.wk (lv' := [some (.ref (cF Θ 0)), some (.int a1), none, some (.int s36.2)]) [true, true, false, true] rfl ?_
                exact J48 (0 : Int32) trivial
              · refine r_iconst C (1 : Int32) dX12_count_165 (by decide) ?_
                refine r_goto C 170 dX12_count_166 (by decide) ?_
                refine WA.wk (lv' := [some (.ref (cF Θ 0)), some (.int a1), none, some (.int s36.2)]) [true, true, false, true] rfl ?_
                exact J48 (1 : Int32) trivial
  refine WA.cas (v := (7 : Int32)) ?_ (fun h50 => ?_)
  · refine r_tabIn C 180 dX12_count_3 (by decide) (by decide) rfl (by decide) ?_
    refine r_aload_n C dX12_count_180 rfl ?_
    refine r_getI0 C dX12_count_181 fg_X12_203 (by decide) ?_
    exact r_iret C dX12_count_184 rfl rfl trivial
  refine WA.cas (v := (8 : Int32)) ?_ (fun h51 => ?_)
  · refine r_tabIn C 185 dX12_count_3 (by decide) (by decide) rfl (by decide) ?_
    refine r_aload_n C dX12_count_185 rfl ?_
    refine r_getI0 C dX12_count_186 fg_X12_206 (by decide) ?_
    exact r_iret C dX12_count_189 rfl rfl trivial
  refine WA.cas (v := (9 : Int32)) ?_ (fun h52 => ?_)
  · refine r_tabIn C 131 dX12_count_3 (by decide) (by decide) rfl (by decide) ?_
    refine r_iconst C (0 : Int32) dX12_count_131 (by decide) ?_
    refine r_istore_n C [some (.ref (cF Θ 0)), some (.int a1), some (.int (0 : Int32)), some (.int (0 : Int32))] dX12_count_132 rfl (by decide) rfl ?_
    refine WA.join (α := Int32) 178 (fun e58 => [none, none, some (.int e58), none]) (fun e58 => []) (fun e58 => σ) (fun e58 => True) (fun e58 h59 => ?_) (fun J60 => ?_)
    · refine r_iload_n C dX12_count_178 rfl ?_
      exact r_iret C dX12_count_179 rfl rfl trivial
    · refine WA.wk (lv' := [some (.ref (cF Θ 0)), some (.int a1), some (.int (0 : Int32)), some (.int (0 : Int32))]) [true, true, true, true] rfl ?_
      refine WA.itr (S := Int32 × Int32) 133 (fun s53 => [some (.ref (cF Θ 0)), some (.int a1), some (.int s53.1), some (.int s53.2)]) (fun s53 => []) (fun s53 => σ) (fun s53 => True) (fun s53 k57 h54 ih55 hx56 => ?_) FU ((0 : Int32), (0 : Int32)) trivial
      refine r_iload_n C dX12_count_133 rfl ?_
      refine r_aload_n C dX12_count_134 rfl ?_
      refine r_getI0 C dX12_count_135 fg_X12_164 (by decide) ?_
      refine WA.bif ?_
      refine r_icmp_ge C 178 dX12_count_138 (by decide) ?_ ?_
      · refine WA.wk (lv' := [none, none, some (.int s53.1), none]) [false, false, true, false] rfl ?_
        exact WA.eqK (hx56 _) (J60 s53.1 trivial)
      · refine r_iload_n C dX12_count_141 rfl ?_
        refine r_aload_n C dX12_count_142 rfl ?_
        refine r_iload_n C dX12_count_143 rfl ?_
        refine WA.asc ?_
        refine r_callV C (st := [.int s53.1]) (As := [.int s53.2]) (d := 0) (j := 0) dX12_count_144 ml_X12_200 vw_X12_isHere ⟨_, _, _, _, rfl, rfl⟩ (dm0 (by decide)) (fun r61 e => c_m_isHere Θ.1.2.1 (cW Θ) (cAd Θ) (cN Θ) σ s53.2 r61 e) rfl rfl (Nat.le_of_ble_eq_true rfl) ⟨rfl, rfl, by decide, by decide⟩ (fun r61 h62 => ?_)
        refine WA.asc ?_
        refine WA.join (α := Int32) 170 (fun t63 => [some (.ref (cF Θ 0)), some (.int a1), none, some (.int s53.2)]) (fun t63 => [.int t63, .int s53.1]) (fun t63 => σ) (fun t63 => True) (fun t63 h64 => ?_) (fun J65 => ?_)
        · refine r_iadd C dX12_count_170 ?_
          refine r_istore_n C [some (.ref (cF Θ 0)), some (.int a1), some (.int (s53.1 + t63)), some (.int s53.2)] dX12_count_171 rfl (by decide) rfl ?_
          refine r_iinc C (1 : Int32) [some (.ref (cF Θ 0)), some (.int a1), some (.int (s53.1 + t63)), some (.int (s53.2 + (1 : Int32)))] dX12_count_172 (by decide) rfl rfl (by decide) rfl ?_
          refine r_goto C 133 dX12_count_175 (by decide) ?_
          refine WA.wk (lv' := [some (.ref (cF Θ 0)), some (.int a1), some (.int (s53.1 + t63)), some (.int (s53.2 + (1 : Int32)))]) [true, true, true, true] rfl ?_
          exact ih55 (s53.1 + t63, s53.2 + (1 : Int32)) trivial
        · refine WA.bif ?_
          refine r_if_eq C 169 dX12_count_147 (by decide) ?_ ?_
          · refine r_iconst C (0 : Int32) dX12_count_169 (by decide) ?_
            refine WA.wk (lv' := [some (.ref (cF Θ 0)), some (.int a1), none, some (.int s53.2)]) [true, true, false, true] rfl ?_
            exact J65 (0 : Int32) trivial
          · refine r_iload_n C dX12_count_150 rfl ?_
            refine r_bipush C (6 : Int32) dX12_count_151 (by decide) ?_
            refine WA.bif ?_
            refine r_icmp_eq C 165 dX12_count_153 (by decide) ?_ ?_
            · refine r_iconst C (1 : Int32) dX12_count_165 (by decide) ?_
              refine r_goto C 170 dX12_count_166 (by decide) ?_
              refine WA.wk (lv' := [some (.ref (cF Θ 0)), some (.int a1), none, some (.int s53.2)]) [true, true, false, true] rfl ?_
              exact J65 (1 : Int32) trivial
            · refine r_aload_n C dX12_count_156 rfl ?_
              refine r_getF0 C dX12_count_157 fg_X12_55 (by decide) ?_
              refine r_iload_n C dX12_count_160 rfl ?_
              refine WA.asc ?_
              refine r_iald (α := Unit) C dX12_count_161 ag_LM_16 (fun i66 => ?_)
              refine WA.bif ?_
              refine r_if_lt C 169 dX12_count_162 (by decide) ?_ ?_
              · refine r_iconst C (0 : Int32) dX12_count_169 (by decide) ?_
                refine WA.wk (lv' := [some (.ref (cF Θ 0)), some (.int a1), none, some (.int s53.2)]) [true, true, false, true] rfl ?_
                exact J65 (0 : Int32) trivial
              · refine r_iconst C (1 : Int32) dX12_count_165 (by decide) ?_
                refine r_goto C 170 dX12_count_166 (by decide) ?_
                refine WA.wk (lv' := [some (.ref (cF Θ 0)), some (.int a1), none, some (.int s53.2)]) [true, true, false, true] rfl ?_
                exact J65 (1 : Int32) trivial
  refine WA.cas (v := (10 : Int32)) ?_ (fun h67 => ?_)
  · refine r_tabIn C 190 dX12_count_3 (by decide) (by decide) rfl (by decide) ?_
    refine r_aload_n C dX12_count_190 rfl ?_
    refine r_getI0 C dX12_count_191 fg_X12_316 (by decide) ?_
    exact r_iret C dX12_count_194 rfl rfl trivial
  have h1 := tq_ne h1 (z := 0) (by decide)
  have h2 := tq_ne h2 (z := 1) (by decide)
  have h3 := tq_ne h3 (z := 2) (by decide)
  have h4 := tq_ne h4 (z := 3) (by decide)
  have h19 := tq_ne h19 (z := 4) (by decide)
  have h34 := tq_ne h34 (z := 5) (by decide)
  have h35 := tq_ne h35 (z := 6) (by decide)
  have h50 := tq_ne h50 (z := 7) (by decide)
  have h51 := tq_ne h51 (z := 8) (by decide)
  have h52 := tq_ne h52 (z := 9) (by decide)
  have h67 := tq_ne h67 (z := 10) (by decide)
  refine r_tabOut C 195 dX12_count_3 (by omega) (by decide) ?_
  refine r_iload_n C dX12_count_195 rfl ?_
  refine r_bipush C (11 : Int32) dX12_count_196 (by decide) ?_
  refine r_bipush C (16 : Int32) dX12_count_198 (by decide) ?_
  refine r_callS C (st := []) (As := [.int a1, .int (11 : Int32), .int (16 : Int32)]) dX12_count_200 ml_X12_157 sw_X12_in (fun r68 e => c_m_in Θ.1.2.1 (cW Θ) (cAd Θ) (cN Θ) σ a1 (11 : Int32) (16 : Int32) r68 e) rfl rfl (Nat.le_of_ble_eq_true rfl) ⟨rfl, rfl, by decide, by decide⟩ (fun r68 h69 => ?_)
  refine r_if_eq C 218 dX12_count_203 (by decide) ?_ ?_
  · refine r_bipush C (-9 : Int32) dX12_count_218 (by decide) ?_
    exact r_iret C dX12_count_220 rfl rfl trivial
  · refine r_aload_n C dX12_count_206 rfl ?_
    refine r_getF0 C dX12_count_207 fg_X12_68 (by decide) ?_
    refine r_iload_n C dX12_count_210 rfl ?_
    refine r_bipush C (10 : Int32) dX12_count_211 (by decide) ?_
    refine r_isub C dX12_count_213 ?_
    refine r_iald (α := Unit) C dX12_count_214 ag_LM_18 (fun i70 => ?_)
    refine r_goto C 220 dX12_count_215 (by decide) ?_
    exact r_iret C dX12_count_220 rfl rfl trivial
theorem c_m_count (l : Launch) (ω : Wd) (ad : Nat → Nat → Nat) (N : Nat → Nat) (σ : St) (a1 : Int32) : ∀ r : Int32, m_count σ a1 = some r → Ct l yX12_count cX12_count 4 (some .int) ({ frames := 2, cells := 0, slots := 0, locals := 43 } : Room) LM ω ad N [.ref (ω.2.1 0), .int a1] σ (some (.int r)) σ (True) :=
  ct_of (o := fun r : Int32 => (some (.int r))) (s' := fun r => σ) (P := fun r => True) [some (.ref (ω.2.1 0)), some (.int a1), none, none] (by decide) rfl (Nat.le_of_ble_eq_true rfl) (fun Γ C _ _ => w_m_count (Γ, ω, 4, ad, N, 0, 0) σ a1 C)
