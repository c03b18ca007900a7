theorem vw_X12_markOf : VW yX12_markOf cX12_markOf 5 (some .int) 2 := ⟨⟨(in_wt 88 (by decide +kernel) (by decide +kernel)), (in_wt 1537 (by decide +kernel) (by decide +kernel)), by decide +kernel⟩, (in_wt 1536 (by decide +kernel) (by decide +kernel)), (in_wt 51 (by decide +kernel) (by decide +kernel))⟩
theorem ml_X12_233 : Cond.methodLink RX12 233 yX12_markOf ∈ wt := in_wt 1534 (by decide +kernel) (by decide +kernel)
/-- PostsEndModel.public int mark(int, int, int) -/
def m_mark (σ : St) (a1 : Int32) (a2 : Int32) (a3 : Int32) : Option (Int32 × St) := (Option.bind (m_isPerson σ a1) fun r1 => (if r1 = 0 then (Option.bind (m_refuse σ (-1 : Int32)) fun r15 => some (r15.1, r15.2)) else (Option.bind (m_in a3 (0 : Int32) (4 : Int32)) fun r3 => (if r3 = 0 then (Option.bind (m_refuse σ (-2 : Int32)) fun r13 => some (r13.1, r13.2)) else (if a2 < 0 then (Option.bind (m_refuse σ (-4 : Int32)) fun r11 => some (r11.1, r11.2)) else (if (3000 : Int32) < a2 then (Option.bind (m_refuse σ (-6 : Int32)) fun r9 => some (r9.1, r9.2)) else (if a3 = (4 : Int32) then (Option.bind (m_markOf σ a1 a2) fun r7 => some (r7, σ)) else (Option.bind (m_partOf σ a1 a3 a2) fun r5 => some (r5, σ)))))))))
set_option maxRecDepth 20000 in
set_option maxHeartbeats 4000000 in
theorem w_m_mark (Θ : TT) (σ : St) (a1 : Int32) (a2 : Int32) (a3 : Int32) (C : CX Θ cX12_mark RX12 (some .int) ({ frames := 4, cells := 0, slots := 0, locals := 92 } : Room) 4) : WA LM Θ (fun r : Int32 × St => Qm LM Θ (some (.int r.1)) r.2 (True)) 0 [some (.ref (cF Θ 0)), some (.int a1), some (.int a2), some (.int a3)] [] σ (m_mark σ a1 a2 a3) := by
  unfold m_mark
  refine r_aload_n C dX12_mark_0 rfl ?_
  refine r_iload_n C dX12_mark_1 rfl ?_
  refine r_callV C (st := []) (As := [.int a1]) (d := 0) (j := 0) dX12_mark_2 ml_X12_194 vw_X12_isPerson ⟨_, _, _, _, rfl, rfl⟩ (dm0 (by decide)) (fun r1 e => c_m_isPerson Θ.1.2.1 (cW Θ) (cAd Θ) (cN Θ) σ a1 r1 e) rfl rfl (Nat.le_of_ble_eq_true rfl) ⟨rfl, rfl, by decide, by decide⟩ (fun r1 h2 => ?_)
  refine r_if_ne C 14 dX12_mark_5 (by decide) ?_ ?_
  · refine r_iload_n C dX12_mark_14 rfl ?_
    refine r_iconst C (0 : Int32) dX12_mark_15 (by decide) ?_
    refine r_iconst C (4 : Int32) dX12_mark_16 (by decide) ?_
    refine r_callS C (st := []) (As := [.int a3, .int (0 : Int32), .int (4 : Int32)]) dX12_mark_17 ml_X12_157 sw_X12_in (fun r3 e => c_m_in Θ.1.2.1 (cW Θ) (cAd Θ) (cN Θ) σ a3 (0 : Int32) (4 : Int32) r3 e) rfl rfl (Nat.le_of_ble_eq_true rfl) ⟨rfl, rfl, by decide, by decide⟩ (fun r3 h4 => ?_)
    refine r_if_ne C 30 dX12_mark_20 (by decide) ?_ ?_
    · refine r_iload_n C dX12_mark_30 rfl ?_
      refine r_if_ge C 41 dX12_mark_31 (by decide) ?_ ?_
      · refine r_iload_n C dX12_mark_41 rfl ?_
        refine r_sipush C (3000 : Int32) dX12_mark_42 (by decide) ?_
        refine r_icmp_le C 55 dX12_mark_45 (by decide) ?_ ?_
        · refine r_iload_n C dX12_mark_55 rfl ?_
          refine r_iconst C (4 : Int32) dX12_mark_56 (by decide) ?_
          refine r_icmp_ne C 69 dX12_mark_57 (by decide) ?_ ?_
          · refine r_aload_n C dX12_mark_69 rfl ?_
            refine r_iload_n C dX12_mark_70 rfl ?_
            refine r_iload_n C dX12_mark_71 rfl ?_
            refine r_iload_n C dX12_mark_72 rfl ?_
            refine r_callV C (st := []) (As := [.int a1, .int a3, .int a2]) (d := 0) (j := 0) dX12_mark_73 ml_X12_230 vw_X12_partOf ⟨_, _, _, _, rfl, rfl⟩ (dm0 (by decide)) (fun r5 e => c_m_partOf Θ.1.2.1 (cW Θ) (cAd Θ) (cN Θ) σ a1 a3 a2 r5 e) rfl rfl (Nat.le_of_ble_eq_true rfl) ⟨rfl, rfl, by decide, by decide⟩ (fun r5 h6 => ?_)
            exact r_iret C dX12_mark_76 rfl rfl trivial
          · refine r_aload_n C dX12_mark_60 rfl ?_
            refine r_iload_n C dX12_mark_61 rfl ?_
            refine r_iload_n C dX12_mark_62 rfl ?_
            refine r_callV C (st := []) (As := [.int a1, .int a2]) (d := 0) (j := 0) dX12_mark_63 ml_X12_233 vw_X12_markOf ⟨_, _, _, _, rfl, rfl⟩ (dm0 (by decide)) (fun r7 e => c_m_markOf Θ.1.2.1 (cW Θ) (cAd Θ) (cN Θ) σ a1 a2 r7 e) rfl rfl (Nat.le_of_ble_eq_true rfl) ⟨rfl, rfl, by decide, by decide⟩ (fun r7 h8 => ?_)
            refine r_goto C 76 dX12_mark_66 (by decide) ?_
            exact r_iret C dX12_mark_76 rfl rfl trivial
        · refine r_aload_n C dX12_mark_48 rfl ?_
          refine r_bipush C (-6 : Int32) dX12_mark_49 (by decide) ?_
          refine r_callV C (st := []) (As := [.int (-6 : Int32)]) (d := 0) (j := 0) dX12_mark_51 ml_X12_174 vw_X12_refuse ⟨_, _, _, _, rfl, rfl⟩ (dm0 (by decide)) (fun r9 e => c_m_refuse Θ.1.2.1 (cW Θ) (cAd Θ) (cN Θ) σ (-6 : Int32) r9 e) rfl rfl (Nat.le_of_ble_eq_true rfl) ⟨rfl, rfl, by decide, by decide⟩ (fun r9 h10 => ?_)
          exact r_iret C dX12_mark_54 rfl rfl trivial
      · refine r_aload_n C dX12_mark_34 rfl ?_
        refine r_bipush C (-4 : Int32) dX12_mark_35 (by decide) ?_
        refine r_callV C (st := []) (As := [.int (-4 : Int32)]) (d := 0) (j := 0) dX12_mark_37 ml_X12_174 vw_X12_refuse ⟨_, _, _, _, rfl, rfl⟩ (dm0 (by decide)) (fun r11 e => c_m_refuse Θ.1.2.1 (cW Θ) (cAd Θ) (cN Θ) σ (-4 : Int32) r11 e) rfl rfl (Nat.le_of_ble_eq_true rfl) ⟨rfl, rfl, by decide, by decide⟩ (fun r11 h12 => ?_)
        exact r_iret C dX12_mark_40 rfl rfl trivial
    · refine r_aload_n C dX12_mark_23 rfl ?_
      refine r_bipush C (-2 : Int32) dX12_mark_24 (by decide) ?_
      refine r_callV C (st := []) (As := [.int (-2 : Int32)]) (d := 0) (j := 0) dX12_mark_26 ml_X12_174 vw_X12_refuse ⟨_, _, _, _, rfl, rfl⟩ (dm0 (by decide)) (fun r13 e => c_m_refuse Θ.1.2.1 (cW Θ) (cAd Θ) (cN Θ) σ (-2 : Int32) r13 e) rfl rfl (Nat.le_of_ble_eq_true rfl) ⟨rfl, rfl, by decide, by decide⟩ (fun r13 h14 => ?_)
      exact r_iret C dX12_mark_29 rfl rfl trivial
  · refine r_aload_n C dX12_mark_8 rfl ?_
    refine r_iconst C (-1 : Int32) dX12_mark_9 (by decide) ?_
    refine r_callV C (st := []) (As := [.int (-1 : Int32)]) (d := 0) (j := 0) dX12_mark_10 ml_X12_174 vw_X12_refuse ⟨_, _, _, _, rfl, rfl⟩ (dm0 (by decide)) (fun r15 e => c_m_refuse Θ.1.2.1 (cW Θ) (cAd Θ) (cN Θ) σ (-1 : Int32) r15 e) rfl rfl (Nat.le_of_ble_eq_true rfl) ⟨rfl, rfl, by decide, by decide⟩ (fun r15 h16 => ?_)
    exact r_iret C dX12_mark_13 rfl rfl trivial
theorem c_m_mark (l : Launch) (ω : Wd) (ad : Nat → Nat → Nat) (N : Nat → Nat) (σ : St) (a1 : Int32) (a2 : Int32) (a3 : Int32) : ∀ r : Int32 × St, m_mark σ a1 a2 a3 = some r → Ct l yX12_mark cX12_mark 4 (some .int) ({ frames := 4, cells := 0, slots := 0, locals := 92 } : Room) LM ω ad N [.ref (ω.2.1 0), .int a1, .int a2, .int a3] σ (some (.int r.1)) r.2 (True) :=
  ct_of (o := fun r : Int32 × St => (some (.int r.1))) (s' := fun r => r.2) (P := fun r => True) [some (.ref (ω.2.1 0)), some (.int a1), some (.int a2), some (.int a3)] (by decide) rfl (Nat.le_of_ble_eq_true rfl) (fun Γ C _ _ => w_m_mark (Γ, ω, 4, ad, N, 0, 0) σ a1 a2 a3 C)
/-- PostsEndModel.private boolean areLike(int, int) -/
def m_areLike (σ : St) (a1 : Int32) (a2 : Int32) : Option Int32 := (Option.bind (ix 40 a1) fun i1 => (Option.bind (ix 40 a2) fun i2 => (Option.bind (ix 40 a1) fun i3 => (Option.bind (ix 40 a2) fun i4 => (Option.bind (m_ones ((σ.1 0 7 i3) &&& (σ.1 0 7 i4))) fun r5 => (Option.bind (α := Int32) ((if r5 < σ.1 0 0 20 then (Option.bind (ix 40 a1) fun i14 => (if σ.1 0 7 i14 = 0 then (Option.bind (ix 40 a2) fun i15 => (if σ.1 0 7 i15 = 0 then some (1 : Int32) else some (0 : Int32))) else some (0 : Int32))) else some (1 : Int32))) fun t7 => (Option.bind (ix 40 a1) fun i10 => (Option.bind (ix 40 a2) fun i11 => (if σ.1 0 4 i10 = σ.1 0 4 i11 then (Option.bind (m_in ((σ.1 0 5 i1) - (σ.1 0 5 i2)) (-1 : Int32) (1 : Int32)) fun r12 => (if r12 = 0 then some (0 : Int32) else (if t7 = 0 then some (0 : Int32) else some (1 : Int32)))) else some (0 : Int32))))))))))
set_option maxRecDepth 20000 in
set_option maxHeartbeats 4000000 in
theorem w_m_areLike (Θ : TT) (σ : St) (a1 : Int32) (a2 : Int32) (C : CX Θ cX12_areLike RX12 (some .boolean) ({ frames := 1, cells := 0, slots := 0, locals := 22 } : Room) 5) : WA LM Θ (fun r : Int32 => Qm LM Θ (some (.int r)) σ (narrow .boolean (.int r) = .int r)) 0 [some (.ref (cF Θ 0)), some (.int a1), some (.int a2), none, none] [] σ (m_areLike σ a1 a2) := by
  unfold m_areLike
  refine r_aload_n C dX12_areLike_0 rfl ?_
  refine r_getF0 C dX12_areLike_1 fg_X12_22 (by decide) ?_
  refine r_iload_n C dX12_areLike_4 rfl ?_
  refine r_iald (α := Unit) C dX12_areLike_5 ag_LM_5 (fun i1 => ?_)
  refine r_aload_n C dX12_areLike_6 rfl ?_
  refine r_getF0 C dX12_areLike_7 fg_X12_22 (by decide) ?_
  refine r_iload_n C dX12_areLike_10 rfl ?_
  refine r_iald (α := Unit) C dX12_areLike_11 ag_LM_5 (fun i2 => ?_)
  refine r_isub C dX12_areLike_12 ?_
  refine r_istore_n C [some (.ref (cF Θ 0)), some (.int a1), some (.int a2), some (.int ((σ.1 0 5 i1) - (σ.1 0 5 i2))), none] dX12_areLike_13 rfl (by decide) rfl ?_
  refine r_aload_n C dX12_areLike_14 rfl ?_
  refine r_getF0 C dX12_areLike_15 fg_X12_28 (by decide) ?_
  refine r_iload_n C dX12_areLike_18 rfl ?_
  refine r_iald (α := Unit) C dX12_areLike_19 ag_LM_7 (fun i3 => ?_)
  refine r_aload_n C dX12_areLike_20 rfl ?_
  refine r_getF0 C dX12_areLike_21 fg_X12_28 (by decide) ?_
  refine r_iload_n C dX12_areLike_24 rfl ?_
  refine r_iald (α := Unit) C dX12_areLike_25 ag_LM_7 (fun i4 => ?_)
  refine r_iand C dX12_areLike_26 ?_
  refine r_callS C (st := []) (As := [.int ((σ.1 0 7 i3) &&& (σ.1 0 7 i4))]) dX12_areLike_27 ml_X12_216 sw_X12_ones (fun r5 e => c_m_ones Θ.1.2.1 (cW Θ) (cAd Θ) (cN Θ) σ ((σ.1 0 7 i3) &&& (σ.1 0 7 i4)) r5 e) rfl rfl (Nat.le_of_ble_eq_true rfl) ⟨rfl, rfl, by decide, by decide⟩ (fun r5 h6 => ?_)
  refine r_aload_n C dX12_areLike_30 rfl ?_
  refine r_getI0 C dX12_areLike_31 fg_X12_58 (by decide) ?_
  refine WA.join (α := Int32) 60 (fun t7 => [some (.ref (cF Θ 0)), some (.int a1), some (.int a2), some (.int ((σ.1 0 5 i1) - (σ.1 0 5 i2))), none]) (fun t7 => [.int t7]) (fun t7 => σ) (fun t7 => True) (fun t7 h8 => ?_) (fun J9 => ?_)
  · refine r_istore C [some (.ref (cF Θ 0)), some (.int a1), some (.int a2), some (.int ((σ.1 0 5 i1) - (σ.1 0 5 i2))), some (.int t7)] dX12_areLike_60 rfl (by decide) rfl ?_
    refine r_aload_n C dX12_areLike_62 rfl ?_
    refine r_getF0 C dX12_areLike_63 fg_X12_19 (by decide) ?_
    refine r_iload_n C dX12_areLike_66 rfl ?_
    refine r_iald (α := Unit) C dX12_areLike_67 ag_LM_4 (fun i10 => ?_)
    refine r_aload_n C dX12_areLike_68 rfl ?_
    refine r_getF0 C dX12_areLike_69 fg_X12_19 (by decide) ?_
    refine r_iload_n C dX12_areLike_72 rfl ?_
    refine r_iald (α := Unit) C dX12_areLike_73 ag_LM_4 (fun i11 => ?_)
    refine r_icmp_ne C 95 dX12_areLike_74 (by decide) ?_ ?_
    · refine r_iconst C (0 : Int32) dX12_areLike_95 (by decide) ?_
      exact r_zret C dX12_areLike_96 (show narrow .boolean (.int (0 : Int32)) = .int (0 : Int32) from rfl) rfl rfl (show narrow .boolean (.int (0 : Int32)) = .int (0 : Int32) from rfl)
    · refine r_iload_n C dX12_areLike_77 rfl ?_
      refine r_iconst C (-1 : Int32) dX12_areLike_78 (by decide) ?_
      refine r_iconst C (1 : Int32) dX12_areLike_79 (by decide) ?_
      refine r_callS C (st := []) (As := [.int ((σ.1 0 5 i1) - (σ.1 0 5 i2)), .int (-1 : Int32), .int (1 : Int32)]) dX12_areLike_80 ml_X12_157 sw_X12_in (fun r12 e => c_m_in Θ.1.2.1 (cW Θ) (cAd Θ) (cN Θ) σ ((σ.1 0 5 i1) - (σ.1 0 5 i2)) (-1 : Int32) (1 : Int32) r12 e) rfl rfl (Nat.le_of_ble_eq_true rfl) ⟨rfl, rfl, by decide, by decide⟩ (fun r12 h13 => ?_)
      refine r_if_eq C 95 dX12_areLike_83 (by decide) ?_ ?_
      · refine r_iconst C (0 : Int32) dX12_areLike_95 (by decide) ?_
        exact r_zret C dX12_areLike_96 (show narrow .boolean (.int (0 : Int32)) = .int (0 : Int32) from rfl) rfl rfl (show narrow .boolean (.int (0 : Int32)) = .int (0 : Int32) from rfl)
      · refine r_iload C dX12_areLike_86 rfl ?_
        refine r_if_eq C 95 dX12_areLike_88 (by decide) ?_ ?_
        · refine r_iconst C (0 : Int32) dX12_areLike_95 (by decide) ?_
          exact r_zret C dX12_areLike_96 (show narrow .boolean (.int (0 : Int32)) = .int (0 : Int32) from rfl) rfl rfl (show narrow .boolean (.int (0 : Int32)) = .int (0 : Int32) from rfl)
        · refine r_iconst C (1 : Int32) dX12_areLike_91 (by decide) ?_
          refine r_goto C 96 dX12_areLike_92 (by decide) ?_
          exact r_zret C dX12_areLike_96 (show narrow .boolean (.int (1 : Int32)) = .int (1 : Int32) from rfl) rfl rfl (show narrow .boolean (.int (1 : Int32)) = .int (1 : Int32) from rfl)
  · refine WA.bif ?_
    refine r_icmp_ge C 55 dX12_areLike_34 (by decide) ?_ ?_
    · refine r_iconst C (1 : Int32) dX12_areLike_55 (by decide) ?_
      refine r_goto C 60 dX12_areLike_56 (by decide) ?_
      refine WA.wk (lv' := [some (.ref (cF Θ 0)), some (.int a1), some (.int a2), some (.int ((σ.1 0 5 i1) - (σ.1 0 5 i2))), none]) [true, true, true, true, false] rfl ?_
      exact J9 (1 : Int32) trivial
    · refine r_aload_n C dX12_areLike_37 rfl ?_
      refine r_getF0 C dX12_areLike_38 fg_X12_28 (by decide) ?_
      refine r_iload_n C dX12_areLike_41 rfl ?_
      refine WA.asc ?_
      refine r_iald (α := Unit) C dX12_areLike_42 ag_LM_7 (fun i14 => ?_)
      refine WA.bif ?_
      refine r_if_ne C 59 dX12_areLike_43 (by decide) ?_ ?_
      · refine r_iconst C (0 : Int32) dX12_areLike_59 (by decide) ?_
        refine WA.wk (lv' := [some (.ref (cF Θ 0)), some (.int a1), some (.int a2), some (.int ((σ.1 0 5 i1) - (σ.1 0 5 i2))), none]) [true, true, true, true, false] rfl ?_
        exact J9 (0 : Int32) trivial
      · refine r_aload_n C dX12_areLike_46 rfl ?_
        refine r_getF0 C dX12_areLike_47 fg_X12_28 (by decide) ?_
        refine r_iload_n C dX12_areLike_50 rfl ?_
        refine WA.asc ?_
        refine r_iald (α := Unit) C dX12_areLike_51 ag_LM_7 (fun i15 => ?_)
        refine WA.bif ?_
        refine r_if_ne C 59 dX12_areLike_52 (by decide) ?_ ?_
        · refine r_iconst C (0 : Int32) dX12_areLike_59 (by decide) ?_
          refine WA.wk (lv' := [some (.ref (cF Θ 0)), some (.int a1), some (.int a2), some (.int ((σ.1 0 5 i1) - (σ.1 0 5 i2))), none]) [true, true, true, true, false] rfl ?_
          exact J9 (0 : Int32) trivial
        · refine r_iconst C (1 : Int32) dX12_areLike_55 (by decide) ?_
          refine r_goto C 60 dX12_areLike_56 (by decide) ?_
          refine WA.wk (lv' := [some (.ref (cF Θ 0)), some (.int a1), some (.int a2), some (.int ((σ.1 0 5 i1) - (σ.1 0 5 i2))), none]) [true, true, true, true, false] rfl ?_
          exact J9 (1 : Int32) trivial
theorem c_m_areLike (l : Launch) (ω : Wd) (ad : Nat → Nat → Nat) (N : Nat → Nat) (σ : St) (a1 : Int32) (a2 : Int32) : ∀ r : Int32, m_areLike σ a1 a2 = some r → Ct l yX12_areLike cX12_areLike 5 (some .boolean) ({ frames := 1, cells := 0, slots := 0, locals := 22 } : Room) LM ω ad N [.ref (ω.2.1 0), .int a1, .int a2] σ (some (.int r)) σ (narrow .boolean (.int r) = .int r) :=
  ct_of (o := fun r : Int32 => (some (.int r))) (s' := fun r => σ) (P := fun r => narrow .boolean (.int r) = .int r) [some (.ref (ω.2.1 0)), some (.int a1), some (.int a2), none, none] (by decide) rfl (Nat.le_of_ble_eq_true rfl) (fun Γ C _ _ => w_m_areLike (Γ, ω, 5, ad, N, 0, 0) σ a1 a2 C)
/-- PostsEndModel.private boolean isBelow(int, int) -/
def m_isBelow (σ : St) (a1 : Int32) (a2 : Int32) : Option Int32 := (Option.bind (itr0 (S := Int32) (E := Int32) (fun s1 => (if s1 < 0 then some (.inr s1) else (if s1 = a2 then some (.inr s1) else (Option.bind (ix 12 s1) fun i9 => some (.inl (σ.1 0 2 i9)))))) FU a1) fun e6 => (if e6 = a2 then some (1 : Int32) else some (0 : Int32)))
set_option maxRecDepth 20000 in
set_option maxHeartbeats 4000000 in
theorem w_m_isBelow (Θ : TT) (σ : St) (a1 : Int32) (a2 : Int32) (C : CX Θ cX12_isBelow RX12 (some .boolean) ({ frames := 0, cells := 0, slots := 0, locals := 0 } : Room) 4) : WA LM Θ (fun r : Int32 => Qm LM Θ (some (.int r)) σ (narrow .boolean (.int r) = .int r)) 0 [some (.ref (cF Θ 0)), some (.int a1), some (.int a2), none] [] σ (m_isBelow σ a1 a2) := by
  unfold m_isBelow
  refine r_iload_n C dX12_isBelow_0 rfl ?_
  refine r_istore_n C [some (.ref (cF Θ 0)), some (.int a1), some (.int a2), some (.int a1)] dX12_isBelow_1 rfl (by decide) rfl ?_
  refine WA.join (α := Int32) 21 (fun e6 => [none, none, some (.int a2), some (.int e6)]) (fun e6 => []) (fun e6 => σ) (fun e6 => True) (fun e6 h7 => ?_) (fun J8 => ?_)
  · refine r_iload_n C dX12_isBelow_21 rfl ?_
    refine r_iload_n C dX12_isBelow_22 rfl ?_
    refine r_icmp_ne C 30 dX12_isBelow_23 (by decide) ?_ ?_
    · refine r_iconst C (0 : Int32) dX12_isBelow_30 (by decide) ?_
      exact r_zret C dX12_isBelow_31 (show narrow .boolean (.int (0 : Int32)) = .int (0 : Int32) from rfl) rfl rfl (show narrow .boolean (.int (0 : Int32)) = .int (0 : Int32) from rfl)
    · refine r_iconst C (1 : Int32) dX12_isBelow_26 (by decide) ?_
      refine r_goto C 31 dX12_isBelow_27 (by decide) ?_
      exact r_zret C dX12_isBelow_31 (show narrow .boolean (.int (1 : Int32)) = .int (1 : Int32) from rfl) rfl rfl (show narrow .boolean (.int (1 : Int32)) = .int (1 : Int32) from rfl)
  · refine WA.wk (lv' := [some (.ref (cF Θ 0)), none, some (.int a2), some (.int a1)]) [true, false, true, true] rfl ?_
    refine WA.itr (S := Int32) 2 (fun s1 => [some (.ref (cF Θ 0)), none, some (.int a2), some (.int s1)]) (fun s1 => []) (fun s1 => σ) (fun s1 => True) (fun s1 k5 h2 ih3 hx4 => ?_) FU a1 trivial
    refine r_iload_n C dX12_isBelow_2 rfl ?_
    refine WA.bif ?_
    refine r_if_lt C 21 dX12_isBelow_3 (by decide) ?_ ?_
    · refine WA.wk (lv' := [none, none, some (.int a2), some (.int s1)]) [false, false, true, true] rfl ?_
      exact WA.eqK (hx4 _) (J8 s1 trivial)
    · refine r_iload_n C dX12_isBelow_6 rfl ?_
      refine r_iload_n C dX12_isBelow_7 rfl ?_
      refine WA.bif ?_
      refine r_icmp_eq C 21 dX12_isBelow_8 (by decide) ?_ ?_
      · refine WA.wk (lv' := [none, none, some (.int a2), some (.int s1)]) [false, false, true, true] rfl ?_
        exact WA.eqK (hx4 _) (J8 s1 trivial)
      · refine r_aload_n C dX12_isBelow_11 rfl ?_
        refine r_getF0 C dX12_isBelow_12 fg_X12_13 (by decide) ?_
        refine r_iload_n C dX12_isBelow_15 rfl ?_
        refine WA.asc ?_
        refine r_iald (α := Unit) C dX12_isBelow_16 ag_LM_2 (fun i9 => ?_)
        refine r_istore_n C [some (.ref (cF Θ 0)), none, some (.int a2), some (.int (σ.1 0 2 i9))] dX12_isBelow_17 rfl (by decide) rfl ?_
        refine r_goto C 2 dX12_isBelow_18 (by decide) ?_
        refine WA.wk (lv' := [some (.ref (cF Θ 0)), none, some (.int a2), some (.int (σ.1 0 2 i9))]) [true, false, true, true] rfl ?_
        exact ih3 (σ.1 0 2 i9) trivial
theorem c_m_isBelow (l : Launch) (ω : Wd) (ad : Nat → Nat → Nat) (N : Nat → Nat) (σ : St) (a1 : Int32) (a2 : Int32) : ∀ r : Int32, m_isBelow σ a1 a2 = some r → Ct l yX12_isBelow cX12_isBelow 4 (some .boolean) ({ frames := 0, cells := 0, slots := 0, locals := 0 } : Room) LM ω ad N [.ref (ω.2.1 0), .int a1, .int a2] σ (some (.int r)) σ (narrow .boolean (.int r) = .int r) :=
  ct_of (o := fun r : Int32 => (some (.int r))) (s' := fun r => σ) (P := fun r => narrow .boolean (.int r) = .int r) [some (.ref (ω.2.1 0)), some (.int a1), some (.int a2), none] (by decide) rfl (Nat.le_of_ble_eq_true rfl) (fun Γ C _ _ => w_m_isBelow (Γ, ω, 4, ad, N, 0, 0) σ a1 a2 C)
theorem ag_LM_26 : AG LM 26 0 40 := ⟨by decide, rfl⟩
theorem ag_LM_27 : AG LM 27 0 40 := ⟨by decide, rfl⟩
theorem vw_X12_areLike : VW yX12_areLike cX12_areLike 5 (some .boolean) 2 := ⟨⟨(in_wt 88 (by decide +kernel) (by decide +kernel)), (in_wt 1572 (by decide +kernel) (by decide +kernel)), by decide +kernel⟩, (in_wt 1571 (by decide +kernel) (by decide +kernel)), (in_wt 58 (by decide +kernel) (by decide +kernel))⟩
theorem vw_X12_isBelow : VW yX12_isBelow cX12_isBelow 4 (some .boolean) 2 := ⟨⟨(in_wt 88 (by decide +kernel) (by decide +kernel)), (in_wt 1568 (by decide +kernel) (by decide +kernel)), by decide +kernel⟩, (in_wt 1567 (by decide +kernel) (by decide +kernel)), (in_wt 57 (by decide +kernel) (by decide +kernel))⟩
theorem fg_X12_92 : FG LM RX12 92 0 0 34 (1, 26) := ⟨_, _, _, _, _, rfl, rfl, rfl, by decide, uw_X12, (in_wt 1268 (by decide +kernel) (by decide +kernel))⟩
theorem fg_X12_95 : FG LM RX12 95 0 0 35 (1, 27) := ⟨_, _, _, _, _, rfl, rfl, rfl, by decide, uw_X12, (in_wt 1269 (by decide +kernel) (by decide +kernel))⟩
theorem ml_X12_236 : Cond.methodLink RX12 236 yX12_isBelow ∈ wt := in_wt 1565 (by decide +kernel) (by decide +kernel)
theorem ml_X12_240 : Cond.methodLink RX12 240 yX12_areLike ∈ wt := in_wt 1569 (by decide +kernel) (by decide +kernel)
/-- PostsEndModel.private int findPools(int) -/
def m_findPools (σ : St) (a1 : Int32) : Option (Int32 × St) := (Option.bind (itr0 (S := Int32 × St) (E := St) (fun s1 => (if s1.1 < s1.2.1 0 0 4 then (Option.bind (ix 40 s1.1) fun i65 => (Option.bind (α := Int32) ((if s1.2.1 0 8 i65 < 0 then (Option.bind (ix 40 s1.1) fun i71 => (Option.bind (m_isBelow s1.2 (s1.2.1 0 3 i71) a1) fun r72 => (if r72 = 0 then some (-1 : Int32) else some s1.1))) else some (-1 : Int32))) fun t66 => (Option.bind (ix 40 s1.1) fun i69 => (lt1 (sx s1.2 0 26 i69 t66) fun σ70 => some (.inl (s1.1 + (1 : Int32), σ70)))))) else some (.inr s1.2))) FU ((0 : Int32), σ)) fun e6 => (Option.bind (itr0 (S := Int32 × St) (E := St) (fun s9 => (if s9.1 = 0 then some (.inr s9.2) else (Option.bind (itr0 (S := Int32 × Int32 × St) (E := Int32 × St) (fun s38 => (if s38.2.1 < s38.2.2.1 0 0 4 then (Option.bind (itr0 (S := Int32 × Int32 × St) (E := Int32 × St) (fun s46 => (if s46.2.1 < s46.2.2.1 0 0 4 then (Option.bind (ix 40 s38.2.1) fun i54 => (Option.bind (α := Int32 × St) ((if s46.2.2.1 0 26 i54 < 0 then some (s46.1, s46.2.2) else (Option.bind (ix 40 s38.2.1) fun i58 => (Option.bind (ix 40 s46.2.1) fun i59 => (if s46.2.2.1 0 26 i58 < s46.2.2.1 0 26 i59 then (Option.bind (m_areLike s46.2.2 s38.2.1 s46.2.1) fun r60 => (if r60 = 0 then some (s46.1, s46.2.2) else (Option.bind (ix 40 s38.2.1) fun i62 => (Option.bind (ix 40 s46.2.1) fun i63 => (lt1 (sx s46.2.2 0 26 i63 (s46.2.2.1 0 26 i62)) fun σ64 => some ((1 : Int32), σ64)))))) else some (s46.1, s46.2.2)))))) fun t55 => some (.inl (t55.1, s46.2.1 + (1 : Int32), t55.2)))) else some (.inr (s46.1, s46.2.2)))) FU (s38.1, (0 : Int32), s38.2.2)) fun e51 => some (.inl (e51.1, s38.2.1 + (1 : Int32), e51.2))) else some (.inr (s38.1, s38.2.2)))) FU ((0 : Int32), (0 : Int32), s9.2)) fun e43 => some (.inl (e43.1, e43.2))))) FU ((1 : Int32), e6)) fun e14 => (Option.bind (itr0 (S := Int32 × Int32 × St) (E := Int32 × St) (fun s17 => (if s17.2.1 < s17.2.2.1 0 0 4 then (Option.bind (ix 40 s17.2.1) fun i25 => (Option.bind (α := Int32) ((if s17.2.2.1 0 26 i25 < 0 then some (-1 : Int32) else (Option.bind (ix 40 s17.2.1) fun i35 => (if s17.2.2.1 0 26 i35 = s17.2.1 then some s17.1 else (Option.bind (ix 40 s17.2.1) fun i36 => (Option.bind (ix 40 (s17.2.2.1 0 26 i36)) fun i37 => some (s17.2.2.1 0 27 i37))))))) fun t26 => (Option.bind (ix 40 s17.2.1) fun i29 => (lt1 (sx s17.2.2 0 27 i29 t26) fun σ30 => (Option.bind (ix 40 s17.2.1) fun i31 => (Option.bind (α := Int32) ((if σ30.1 0 26 i31 = s17.2.1 then some (1 : Int32) else some (0 : Int32))) fun t32 => some (.inl (s17.1 + t32, s17.2.1 + (1 : Int32), σ30)))))))) else some (.inr (s17.1, s17.2.2)))) FU ((0 : Int32), (0 : Int32), e14)) fun e22 => some (e22.1, e22.2))))
set_option maxRecDepth 20000 in
set_option maxHeartbeats 4000000 in
theorem w_m_findPools (Θ : TT) (σ : St) (a1 : Int32) (C : CX Θ cX12_findPools RX12 (some .int) ({ frames := 2, cells := 0, slots := 0, locals := 46 } : Room) 5) : WA LM Θ (fun r : Int32 × St => Qm LM Θ (some (.int r.1)) r.2 (True)) 0 [some (.ref (cF Θ 0)), some (.int a1), none, none, none] [] σ (m_findPools σ a1) := by
  unfold m_findPools
  refine r_iconst C (0 : Int32) dX12_findPools_0 (by decide) ?_
  refine r_istore_n C [some (.ref (cF Θ 0)), some (.int a1), some (.int (0 : Int32)), none, none] dX12_findPools_1 rfl (by decide) rfl ?_
  refine WA.join (α := St) 50 (fun e6 => [some (.ref (cF Θ 0)), none, none, none, none]) (fun e6 => []) (fun e6 => e6) (fun e6 => True) (fun e6 h7 => ?_) (fun J8 => ?_)
  · refine r_iconst C (1 : Int32) dX12_findPools_50 (by decide) ?_
    refine r_istore_n C [some (.ref (cF Θ 0)), none, some (.int (1 : Int32)), none, none] dX12_findPools_51 rfl (by decide) rfl ?_
    refine WA.join (α := St) 145 (fun e14 => [some (.ref (cF Θ 0)), none, none, none, none]) (fun e14 => []) (fun e14 => e14) (fun e14 => True) (fun e14 h15 => ?_) (fun J16 => ?_)
    · refine r_iconst C (0 : Int32) dX12_findPools_145 (by decide) ?_
      refine r_istore_n C [some (.ref (cF Θ 0)), none, none, some (.int (0 : Int32)), none] dX12_findPools_146 rfl (by decide) rfl ?_
      refine r_iconst C (0 : Int32) dX12_findPools_147 (by decide) ?_
      refine r_istore C [some (.ref (cF Θ 0)), none, none, some (.int (0 : Int32)), some (.int (0 : Int32))] dX12_findPools_148 rfl (by decide) rfl ?_
      refine WA.join (α := Int32 × St) 234 (fun e22 => [none, none, none, some (.int e22.1), none]) (fun e22 => []) (fun e22 => e22.2) (fun e22 => True) (fun e22 h23 => ?_) (fun J24 => ?_)
      · refine r_iload_n C dX12_findPools_234 rfl ?_
        exact r_iret C dX12_findPools_235 rfl rfl trivial
      · refine WA.wk (lv' := [some (.ref (cF Θ 0)), none, none, some (.int (0 : Int32)), some (.int (0 : Int32))]) [true, false, false, true, true] rfl ?_
        refine WA.itr (S := Int32 × Int32 × St) 150 (fun s17 => [some (.ref (cF Θ 0)), none, none, some (.int s17.1), some (.int s17.2.1)]) (fun s17 => []) (fun s17 => s17.2.2) (fun s17 => True) (fun s17 k21 h18 ih19 hx20 => ?_) FU ((0 : Int32), (0 : Int32), e14) trivial
        refine r_iload C dX12_findPools_150 rfl ?_
        refine r_aload_n C dX12_findPools_152 rfl ?_
        refine r_getI0 C dX12_findPools_153 fg_X12_161 (by decide) ?_
        refine WA.bif ?_
        refine r_icmp_ge C 234 dX12_findPools_156 (by decide) ?_ ?_
        · refine WA.wk (lv' := [none, none, none, some (.int s17.1), none]) [false, false, false, true, false] rfl ?_
          exact WA.eqK (hx20 _) (J24 (s17.1, s17.2.2) trivial)
        · refine r_aload_n C dX12_findPools_159 rfl ?_
          refine r_getF0 C dX12_findPools_160 fg_X12_95 (by decide) ?_
          refine r_iload C dX12_findPools_163 rfl ?_
          refine r_aload_n C dX12_findPools_165 rfl ?_
          refine r_getF0 C dX12_findPools_166 fg_X12_92 (by decide) ?_
          refine r_iload C dX12_findPools_169 rfl ?_
          refine WA.asc ?_
          refine r_iald (α := Unit) C dX12_findPools_171 ag_LM_26 (fun i25 => ?_)
          refine WA.asc ?_
          refine WA.join (α := Int32) 207 (fun t26 => [some (.ref (cF Θ 0)), none, none, some (.int s17.1), some (.int s17.2.1)]) (fun t26 => [.int t26, .int s17.2.1, .ref (cF Θ 27)]) (fun t26 => s17.2.2) (fun t26 => True) (fun t26 h27 => ?_) (fun J28 => ?_)
          · refine WA.asc ?_
            refine r_iast C dX12_findPools_207 ag_LM_27 (fun i29 => ?_)
            refine WA.genB (fun σ30 => ?_)
            refine r_iload_n C dX12_findPools_208 rfl ?_
            refine r_aload_n C dX12_findPools_209 rfl ?_
            refine r_getF0 C dX12_findPools_210 fg_X12_92 (by decide) ?_
            refine r_iload C dX12_findPools_213 rfl ?_
            refine WA.asc ?_
            refine r_iald (α := Unit) C dX12_findPools_215 ag_LM_26 (fun i31 => ?_)
            refine r_iload C dX12_findPools_216 rfl ?_
            refine WA.asc ?_
            refine WA.join (α := Int32) 226 (fun t32 => [some (.ref (cF Θ 0)), none, none, none, some (.int s17.2.1)]) (fun t32 => [.int t32, .int s17.1]) (fun t32 => σ30) (fun t32 => True) (fun t32 h33 => ?_) (fun J34 => ?_)
            · refine r_iadd C dX12_findPools_226 ?_
              refine r_istore_n C [some (.ref (cF Θ 0)), none, none, some (.int (s17.1 + t32)), some (.int s17.2.1)] dX12_findPools_227 rfl (by decide) rfl ?_
              refine r_iinc C (1 : Int32) [some (.ref (cF Θ 0)), none, none, some (.int (s17.1 + t32)), some (.int (s17.2.1 + (1 : Int32)))] dX12_findPools_228 (by decide) rfl rfl (by decide) rfl ?_
              refine r_goto C 150 dX12_findPools_231 (by decide) ?_
              refine WA.wk (lv' := [some (.ref (cF Θ 0)), none, none, some (.int (s17.1 + t32)), some (.int (s17.2.1 + (1 : Int32)))]) [true, false, false, true, true] rfl ?_
              exact ih19 (s17.1 + t32, s17.2.1 + (1 : Int32), σ30) trivial
            · refine WA.bif ?_
              refine r_icmp_ne C 225 dX12_findPools_218 (by decide) ?_ ?_
              · refine r_iconst C (0 : Int32) dX12_findPools_225 (by decide) ?_
                refine WA.wk (lv' := [some (.ref (cF Θ 0)), none, none, none, some (.int s17.2.1)]) [true, false, false, false, true] rfl ?_
                exact J34 (0 : Int32) trivial
              · refine r_iconst C (1 : Int32) dX12_findPools_221 (by decide) ?_
                refine r_goto C 226 dX12_findPools_222 (by decide) ?_
                refine WA.wk (lv' := [some (.ref (cF Θ 0)), none, none, none, some (.int s17.2.1)]) [true, false, false, false, true] rfl ?_
                exact J34 (1 : Int32) trivial
          · refine WA.bif ?_
            refine r_if_ge C 179 dX12_findPools_172 (by decide) ?_ ?_
            · refine r_aload_n C dX12_findPools_179 rfl ?_
              refine r_getF0 C dX12_findPools_180 fg_X12_92 (by decide) ?_
              refine r_iload C dX12_findPools_183 rfl ?_
              refine WA.asc ?_
              refine r_iald (α := Unit) C dX12_findPools_185 ag_LM_26 (fun i35 => ?_)
              refine r_iload C dX12_findPools_186 rfl ?_
              refine WA.bif ?_
              refine r_icmp_ne C 195 dX12_findPools_188 (by decide) ?_ ?_
              · refine r_aload_n C dX12_findPools_195 rfl ?_
                refine r_getF0 C dX12_findPools_196 fg_X12_95 (by decide) ?_
                refine r_aload_n C dX12_findPools_199 rfl ?_
                refine r_getF0 C dX12_findPools_200 fg_X12_92 (by decide) ?_
                refine r_iload C dX12_findPools_203 rfl ?_
                refine WA.asc ?_
                refine r_iald (α := Unit) C dX12_findPools_205 ag_LM_26 (fun i36 => ?_)
                refine WA.asc ?_
                refine r_iald (α := Unit) C dX12_findPools_206 ag_LM_27 (fun i37 => ?_)
                refine WA.wk (lv' := [some (.ref (cF Θ 0)), none, none, some (.int s17.1), some (.int s17.2.1)]) [true, false, false, true, true] rfl ?_
                exact J28 (s17.2.2.1 0 27 i37) trivial
              · refine r_iload_n C dX12_findPools_191 rfl ?_
                refine r_goto C 207 dX12_findPools_192 (by decide) ?_
                refine WA.wk (lv' := [some (.ref (cF Θ 0)), none, none, some (.int s17.1), some (.int s17.2.1)]) [true, false, false, true, true] rfl ?_
                exact J28 s17.1 trivial
            · refine r_iconst C (-1 : Int32) dX12_findPools_175 (by decide) ?_
              refine r_goto C 207 dX12_findPools_176 (by decide) ?_
              refine WA.wk (lv' := [some (.ref (cF Θ 0)), none, none, some (.int s17.1), some (.int s17.2.1)]) [true, false, false, true, true] rfl ?_
              exact J28 (-1 : Int32) trivial
    · refine WA.wk (lv' := [some (.ref (cF Θ 0)), none, some (.int (1 : Int32)), none, none]) [true, false, true, false, false] rfl ?_
      refine WA.itr (S := Int32 × St) 52 (fun s9 => [some (.ref (cF Θ 0)), none, some (.int s9.1), none, none]) (fun s9 => []) (fun s9 => s9.2) (fun s9 => True) (fun s9 k13 h10 ih11 hx12 => ?_) FU ((1 : Int32), e6) trivial
      refine r_iload_n C dX12_findPools_52 rfl ?_
      refine WA.bif ?_
      refine r_if_eq C 145 dX12_findPools_53 (by decide) ?_ ?_
      · refine WA.wk (lv' := [some (.ref (cF Θ 0)), none, none, none, none]) [true, false, false, false, false] rfl ?_
        exact WA.eqK (hx12 _) (J16 s9.2 trivial)
      · refine r_iconst C (0 : Int32) dX12_findPools_56 (by decide) ?_
        refine r_istore_n C [some (.ref (cF Θ 0)), none, some (.int (0 : Int32)), none, none] dX12_findPools_57 rfl (by decide) rfl ?_
        refine r_iconst C (0 : Int32) dX12_findPools_58 (by decide) ?_
        refine r_istore_n C [some (.ref (cF Θ 0)), none, some (.int (0 : Int32)), some (.int (0 : Int32)), none] dX12_findPools_59 rfl (by decide) rfl ?_
        refine WA.asc ?_
        refine WA.join (α := Int32 × St) 142 (fun e43 => [some (.ref (cF Θ 0)), none, some (.int e43.1), none, none]) (fun e43 => []) (fun e43 => e43.2) (fun e43 => True) (fun e43 h44 => ?_) (fun J45 => ?_)
        · refine r_goto C 52 dX12_findPools_142 (by decide) ?_
          refine WA.wk (lv' := [some (.ref (cF Θ 0)), none, some (.int e43.1), none, none]) [true, false, true, false, false] rfl ?_
          exact ih11 (e43.1, e43.2) trivial
        · refine WA.wk (lv' := [some (.ref (cF Θ 0)), none, some (.int (0 : Int32)), some (.int (0 : Int32)), none]) [true, false, true, true, false] rfl ?_
          refine WA.itr (S := Int32 × Int32 × St) 60 (fun s38 => [some (.ref (cF Θ 0)), none, some (.int s38.1), some (.int s38.2.1), none]) (fun s38 => []) (fun s38 => s38.2.2) (fun s38 => True) (fun s38 k42 h39 ih40 hx41 => ?_) FU ((0 : Int32), (0 : Int32), s9.2) trivial
          refine r_iload_n C dX12_findPools_60 rfl ?_
          refine r_aload_n C dX12_findPools_61 rfl ?_
          refine r_getI0 C dX12_findPools_62 fg_X12_161 (by decide) ?_
          refine WA.bif ?_
          refine r_icmp_ge C 142 dX12_findPools_65 (by decide) ?_ ?_
          · refine WA.wk (lv' := [some (.ref (cF Θ 0)), none, some (.int s38.1), none, none]) [true, false, true, false, false] rfl ?_
            exact WA.eqK (hx41 _) (J45 (s38.1, s38.2.2) trivial)
          · refine r_iconst C (0 : Int32) dX12_findPools_68 (by decide) ?_
            refine r_istore C [some (.ref (cF Θ 0)), none, some (.int s38.1), some (.int s38.2.1), some (.int (0 : Int32))] dX12_findPools_69 rfl (by decide) rfl ?_
            refine WA.asc ?_
            refine WA.join (α := Int32 × St) 136 (fun e51 => [some (.ref (cF Θ 0)), none, some (.int e51.1), some (.int s38.2.1), none]) (fun e51 => []) (fun e51 => e51.2) (fun e51 => True) (fun e51 h52 => ?_) (fun J53 => ?_)
            · refine r_iinc C (1 : Int32) [some (.ref (cF Θ 0)), none, some (.int e51.1), some (.int (s38.2.1 + (1 : Int32))), none] dX12_findPools_136 (by decide) rfl rfl (by decide) rfl ?_
              refine r_goto C 60 dX12_findPools_139 (by decide) ?_
              refine WA.wk (lv' := [some (.ref (cF Θ 0)), none, some (.int e51.1), some (.int (s38.2.1 + (1 : Int32))), none]) [true, false, true, true, false] rfl ?_
              exact ih40 (e51.1, s38.2.1 + (1 : Int32), e51.2) trivial
            · refine WA.wk (lv' := [some (.ref (cF Θ 0)), none, some (.int s38.1), some (.int s38.2.1), some (.int (0 : Int32))]) [true, false, true, true, true] rfl ?_
              refine WA.itr (S := Int32 × Int32 × St) 71 (fun s46 => [some (.ref (cF Θ 0)), none, some (.int s46.1), some (.int s38.2.1), some (.int s46.2.1)]) (fun s46 => []) (fun s46 => s46.2.2) (fun s46 => True) (fun s46 k50 h47 ih48 hx49 => ?_) FU (s38.1, (0 : Int32), s38.2.2) trivial
              refine r_iload C dX12_findPools_71 rfl ?_
              refine r_aload_n C dX12_findPools_73 rfl ?_
              refine r_getI0 C dX12_findPools_74 fg_X12_161 (by decide) ?_
              refine WA.bif ?_
              refine r_icmp_ge C 136 dX12_findPools_77 (by decide) ?_ ?_
              · refine WA.wk (lv' := [some (.ref (cF Θ 0)), none, some (.int s46.1), some (.int s38.2.1), none]) [true, false, true, true, false] rfl ?_
                exact WA.eqK (hx49 _) (J53 (s46.1, s46.2.2) trivial)
              · refine r_aload_n C dX12_findPools_80 rfl ?_
                refine r_getF0 C dX12_findPools_81 fg_X12_92 (by decide) ?_
                refine r_iload_n C dX12_findPools_84 rfl ?_
                refine WA.asc ?_
                refine r_iald (α := Unit) C dX12_findPools_85 ag_LM_26 (fun i54 => ?_)
                refine WA.asc ?_
                refine WA.join (α := Int32 × St) 130 (fun t55 => [some (.ref (cF Θ 0)), none, some (.int t55.1), some (.int s38.2.1), some (.int s46.2.1)]) (fun t55 => []) (fun t55 => t55.2) (fun t55 => True) (fun t55 h56 => ?_) (fun J57 => ?_)
                · refine r_iinc C (1 : Int32) [some (.ref (cF Θ 0)), none, some (.int t55.1), some (.int s38.2.1), some (.int (s46.2.1 + (1 : Int32)))] dX12_findPools_130 (by decide) rfl rfl (by decide) rfl ?_
                  refine r_goto C 71 dX12_findPools_133 (by decide) ?_
                  refine WA.wk (lv' := [some (.ref (cF Θ 0)), none, some (.int t55.1), some (.int s38.2.1), some (.int (s46.2.1 + (1 : Int32)))]) [true, false, true, true, true] rfl ?_
                  exact ih48 (t55.1, s46.2.1 + (1 : Int32), t55.2) trivial
                · refine WA.bif ?_
                  refine r_if_lt C 130 dX12_findPools_86 (by decide) ?_ ?_
                  · refine WA.wk (lv' := [some (.ref (cF Θ 0)), none, some (.int s46.1), some (.int s38.2.1), some (.int s46.2.1)]) [true, false, true, true, true] rfl ?_
                    exact J57 (s46.1, s46.2.2) trivial
                  · refine r_aload_n C dX12_findPools_89 rfl ?_
                    refine r_getF0 C dX12_findPools_90 fg_X12_92 (by decide) ?_
                    refine r_iload_n C dX12_findPools_93 rfl ?_
                    refine WA.asc ?_
                    refine r_iald (α := Unit) C dX12_findPools_94 ag_LM_26 (fun i58 => ?_)
                    refine r_aload_n C dX12_findPools_95 rfl ?_
                    refine r_getF0 C dX12_findPools_96 fg_X12_92 (by decide) ?_
                    refine r_iload C dX12_findPools_99 rfl ?_
                    refine WA.asc ?_
                    refine r_iald (α := Unit) C dX12_findPools_101 ag_LM_26 (fun i59 => ?_)
                    refine WA.bif ?_
                    refine r_icmp_ge C 130 dX12_findPools_102 (by decide) ?_ ?_
                    · refine WA.wk (lv' := [some (.ref (cF Θ 0)), none, some (.int s46.1), some (.int s38.2.1), some (.int s46.2.1)]) [true, false, true, true, true] rfl ?_
                      exact J57 (s46.1, s46.2.2) trivial
                    · refine r_aload_n C dX12_findPools_105 rfl ?_
                      refine r_iload_n C dX12_findPools_106 rfl ?_
                      refine r_iload C dX12_findPools_107 rfl ?_
                      refine WA.asc ?_
                      refine r_callV C (st := []) (As := [.int s38.2.1, .int s46.2.1]) (d := 0) (j := 0) dX12_findPools_109 ml_X12_240 vw_X12_areLike ⟨_, _, _, _, rfl, rfl⟩ (dm0 (by decide)) (fun r60 e => c_m_areLike Θ.1.2.1 (cW Θ) (cAd Θ) (cN Θ) s46.2.2 s38.2.1 s46.2.1 r60 e) rfl rfl (Nat.le_of_ble_eq_true rfl) ⟨rfl, rfl, by decide, by decide⟩ (fun r60 h61 => ?_)
                      refine WA.bif ?_
                      refine r_if_eq C 130 dX12_findPools_112 (by decide) ?_ ?_
                      · refine WA.wk (lv' := [some (.ref (cF Θ 0)), none, some (.int s46.1), some (.int s38.2.1), some (.int s46.2.1)]) [true, false, true, true, true] rfl ?_
                        exact J57 (s46.1, s46.2.2) trivial
                      · refine r_aload_n C dX12_findPools_115 rfl ?_
                        refine r_getF0 C dX12_findPools_116 fg_X12_92 (by decide) ?_
                        refine r_iload C dX12_findPools_119 rfl ?_
                        refine r_aload_n C dX12_findPools_121 rfl ?_
                        refine r_getF0 C dX12_findPools_122 fg_X12_92 (by decide) ?_
                        refine r_iload_n C dX12_findPools_125 rfl ?_
                        refine WA.asc ?_
                        refine r_iald (α := Unit) C dX12_findPools_126 ag_LM_26 (fun i62 => ?_)
                        refine WA.asc ?_
                        refine r_iast C dX12_findPools_127 ag_LM_26 (fun i63 => ?_)
                        refine WA.genB (fun σ64 => ?_)
                        refine r_iconst C (1 : Int32) dX12_findPools_128 (by decide) ?_
                        refine r_istore_n C [some (.ref (cF Θ 0)), none, some (.int (1 : Int32)), some (.int s38.2.1), some (.int s46.2.1)] dX12_findPools_129 rfl (by decide) rfl ?_
                        refine WA.wk (lv' := [some (.ref (cF Θ 0)), none, some (.int (1 : Int32)), some (.int s38.2.1), some (.int s46.2.1)]) [true, false, true, true, true] rfl ?_
                        exact J57 ((1 : Int32), σ64) trivial
  · refine WA.wk (lv' := [some (.ref (cF Θ 0)), some (.int a1), some (.int (0 : Int32)), none, none]) [true, true, true, false, false] rfl ?_
    refine WA.itr (S := Int32 × St) 2 (fun s1 => [some (.ref (cF Θ 0)), some (.int a1), some (.int s1.1), none, none]) (fun s1 => []) (fun s1 => s1.2) (fun s1 => True) (fun s1 k5 h2 ih3 hx4 => ?_) FU ((0 : Int32), σ) trivial
    refine r_iload_n C dX12_findPools_2 rfl ?_
    refine r_aload_n C dX12_findPools_3 rfl ?_
    refine r_getI0 C dX12_findPools_4 fg_X12_161 (by decide) ?_
    refine WA.bif ?_
    refine r_icmp_ge C 50 dX12_findPools_7 (by decide) ?_ ?_
    · refine WA.wk (lv' := [some (.ref (cF Θ 0)), none, none, none, none]) [true, false, false, false, false] rfl ?_
      exact WA.eqK (hx4 _) (J8 s1.2 trivial)
    · refine r_aload_n C dX12_findPools_10 rfl ?_
      refine r_getF0 C dX12_findPools_11 fg_X12_92 (by decide) ?_
      refine r_iload_n C dX12_findPools_14 rfl ?_
      refine r_aload_n C dX12_findPools_15 rfl ?_
      refine r_getF0 C dX12_findPools_16 fg_X12_31 (by decide) ?_
      refine r_iload_n C dX12_findPools_19 rfl ?_
      refine WA.asc ?_
      refine r_iald (α := Unit) C dX12_findPools_20 ag_LM_8 (fun i65 => ?_)
      refine WA.asc ?_
      refine WA.join (α := Int32) 43 (fun t66 => [some (.ref (cF Θ 0)), some (.int a1), some (.int s1.1), none, none]) (fun t66 => [.int t66, .int s1.1, .ref (cF Θ 26)]) (fun t66 => s1.2) (fun t66 => True) (fun t66 h67 => ?_) (fun J68 => ?_)
      · refine WA.asc ?_
        refine r_iast C dX12_findPools_43 ag_LM_26 (fun i69 => ?_)
        refine WA.genB (fun σ70 => ?_)
        refine r_iinc C (1 : Int32) [some (.ref (cF Θ 0)), some (.int a1), some (.int (s1.1 + (1 : Int32))), none, none] dX12_findPools_44 (by decide) rfl rfl (by decide) rfl ?_
        refine r_goto C 2 dX12_findPools_47 (by decide) ?_
        refine WA.wk (lv' := [some (.ref (cF Θ 0)), some (.int a1), some (.int (s1.1 + (1 : Int32))), none, none]) [true, true, true, false, false] rfl ?_
        exact ih3 (s1.1 + (1 : Int32), σ70) trivial
      · refine WA.bif ?_
        refine r_if_ge C 42 dX12_findPools_21 (by decide) ?_ ?_
        · refine r_iconst C (-1 : Int32) dX12_findPools_42 (by decide) ?_
          refine WA.wk (lv' := [some (.ref (cF Θ 0)), some (.int a1), some (.int s1.1), none, none]) [true, true, true, false, false] rfl ?_
          exact J68 (-1 : Int32) trivial
        · refine r_aload_n C dX12_findPools_24 rfl ?_
          refine r_aload_n C dX12_findPools_25 rfl ?_
          refine r_getF0 C dX12_findPools_26 fg_X12_16 (by decide) ?_
          refine r_iload_n C dX12_findPools_29 rfl ?_
          refine WA.asc ?_
          refine r_iald (α := Unit) C dX12_findPools_30 ag_LM_3 (fun i71 => ?_)
          refine r_iload_n C dX12_findPools_31 rfl ?_
          refine WA.asc ?_
          refine r_callV C (st := [.int s1.1, .ref (cF Θ 26)]) (As := [.int (s1.2.1 0 3 i71), .int a1]) (d := 0) (j := 0) dX12_findPools_32 ml_X12_236 vw_X12_isBelow ⟨_, _, _, _, rfl, rfl⟩ (dm0 (by decide)) (fun r72 e => c_m_isBelow Θ.1.2.1 (cW Θ) (cAd Θ) (cN Θ) s1.2 (s1.2.1 0 3 i71) a1 r72 e) rfl rfl (Nat.le_of_ble_eq_true rfl) ⟨rfl, rfl, by decide, by decide⟩ (fun r72 h73 => ?_)
          refine WA.bif ?_
          refine r_if_eq C 42 dX12_findPools_35 (by decide) ?_ ?_
          · refine r_iconst C (-1 : Int32) dX12_findPools_42 (by decide) ?_
            refine WA.wk (lv' := [some (.ref (cF Θ 0)), some (.int a1), some (.int s1.1), none, none]) [true, true, true, false, false] rfl ?_
            exact J68 (-1 : Int32) trivial
          · refine r_iload_n C dX12_findPools_38 rfl ?_
            refine r_goto C 43 dX12_findPools_39 (by decide) ?_
            refine WA.wk (lv' := [some (.ref (cF Θ 0)), some (.int a1), some (.int s1.1), none, none]) [true, true, true, false, false] rfl ?_
            exact J68 s1.1 trivial
theorem c_m_findPools (l : Launch) (ω : Wd) (ad : Nat → Nat → Nat) (N : Nat → Nat) (σ : St) (a1 : Int32) : ∀ r : Int32 × St, m_findPools σ a1 = some r → Ct l yX12_findPools cX12_findPools 5 (some .int) ({ frames := 2, cells := 0, slots := 0, locals := 46 } : Room) LM ω ad N [.ref (ω.2.1 0), .int a1] σ (some (.int r.1)) r.2 (True) :=
  ct_of (o := fun r : Int32 × St => (some (.int r.1))) (s' := fun r => r.2) (P := fun r => True) [some (.ref (ω.2.1 0)), some (.int a1), none, none, none] (by decide) rfl (Nat.le_of_ble_eq_true rfl) (fun Γ C _ _ => w_m_findPools (Γ, ω, 5, ad, N, 0, 0) σ a1 C)
theorem vw_X12_findPools : VW yX12_findPools cX12_findPools 5 (some .int) 1 := ⟨⟨(in_wt 88 (by decide +kernel) (by decide +kernel)), (in_wt 1564 (by decide +kernel) (by decide +kernel)), by decide +kernel⟩, (in_wt 1563 (by decide +kernel) (by decide +kernel)), (in_wt 56 (by decide +kernel) (by decide +kernel))⟩
theorem ml_X12_243 : Cond.methodLink RX12 243 yX12_findPools ∈ wt := in_wt 1561 (by decide +kernel) (by decide +kernel)
/-- PostsEndModel.public int pools(int) -/
def m_pools (σ : St) (a1 : Int32) : Option (Int32 × St) := (Option.bind (m_isUnit σ a1) fun r1 => (if r1 = 0 then (Option.bind (m_refuse σ (-1 : Int32)) fun r3 => some (r3.1, r3.2)) else (Option.bind (m_findPools σ a1) fun r5 => some (r5.1, r5.2))))
set_option maxRecDepth 20000 in
set_option maxHeartbeats 4000000 in
theorem w_m_pools (Θ : TT) (σ : St) (a1 : Int32) (C : CX Θ cX12_pools RX12 (some .int) ({ frames := 3, cells := 0, slots := 0, locals := 70 } : Room) 2) : WA LM Θ (fun r : Int32 × St => Qm LM Θ (some (.int r.1)) r.2 (True)) 0 [some (.ref (cF Θ 0)), some (.int a1)] [] σ (m_pools σ a1) := by
  unfold m_pools
  refine r_aload_n C dX12_pools_0 rfl ?_
  refine r_iload_n C dX12_pools_1 rfl ?_
  refine r_callV C (st := []) (As := [.int a1]) (d := 0) (j := 0) dX12_pools_2 ml_X12_177 vw_X12_isUnit ⟨_, _, _, _, rfl, rfl⟩ (dm0 (by decide)) (fun r1 e => c_m_isUnit Θ.1.2.1 (cW Θ) (cAd Θ) (cN Θ) σ a1 r1 e) rfl rfl (Nat.le_of_ble_eq_true rfl) ⟨rfl, rfl, by decide, by decide⟩ (fun r1 h2 => ?_)
  refine r_if_eq C 16 dX12_pools_5 (by decide) ?_ ?_
  · refine r_aload_n C dX12_pools_16 rfl ?_
    refine r_iconst C (-1 : Int32) dX12_pools_17 (by decide) ?_
    refine r_callV C (st := []) (As := [.int (-1 : Int32)]) (d := 0) (j := 0) dX12_pools_18 ml_X12_174 vw_X12_refuse ⟨_, _, _, _, rfl, rfl⟩ (dm0 (by decide)) (fun r3 e => c_m_refuse Θ.1.2.1 (cW Θ) (cAd Θ) (cN Θ) σ (-1 : Int32) r3 e) rfl rfl (Nat.le_of_ble_eq_true rfl) ⟨rfl, rfl, by decide, by decide⟩ (fun r3 h4 => ?_)
    exact r_iret C dX12_pools_21 rfl rfl trivial
  · refine r_aload_n C dX12_pools_8 rfl ?_
    refine r_iload_n C dX12_pools_9 rfl ?_
    refine r_callV C (st := []) (As := [.int a1]) (d := 0) (j := 0) dX12_pools_10 ml_X12_243 vw_X12_findPools ⟨_, _, _, _, rfl, rfl⟩ (dm0 (by decide)) (fun r5 e => c_m_findPools Θ.1.2.1 (cW Θ) (cAd Θ) (cN Θ) σ a1 r5 e) rfl rfl (Nat.le_of_ble_eq_true rfl) ⟨rfl, rfl, by decide, by decide⟩ (fun r5 h6 => ?_)
    refine r_goto C 21 dX12_pools_13 (by decide) ?_
    exact r_iret C dX12_pools_21 rfl rfl trivial
theorem c_m_pools (l : Launch) (ω : Wd) (ad : Nat → Nat → Nat) (N : Nat → Nat) (σ : St) (a1 : Int32) : ∀ r : Int32 × St, m_pools σ a1 = some r → Ct l yX12_pools cX12_pools 2 (some .int) ({ frames := 3, cells := 0, slots := 0, locals := 70 } : Room) LM ω ad N [.ref (ω.2.1 0), .int a1] σ (some (.int r.1)) r.2 (True) :=
  ct_of (o := fun r : Int32 × St => (some (.int r.1))) (s' := fun r => r.2) (P := fun r => True) [some (.ref (ω.2.1 0)), some (.int a1)] (by decide) rfl (Nat.le_of_ble_eq_true rfl) (fun Γ C _ _ => w_m_pools (Γ, ω, 2, ad, N, 0, 0) σ a1 C)
/-- PostsEndModel.public int poolOf(int, int) -/
def m_poolOf (σ : St) (a1 : Int32) (a2 : Int32) : Option (Int32 × St) := (Option.bind (m_isUnit σ a1) fun r1 => (if r1 = 0 then (Option.bind (m_refuse σ (-1 : Int32)) fun r3 => some (r3.1, r3.2)) else (Option.bind (m_isPost σ a2) fun r5 => (if r5 = 0 then (Option.bind (m_refuse σ (-1 : Int32)) fun r11 => some (r11.1, r11.2)) else (Option.bind (m_findPools σ a1) fun r7 => (Option.bind (ix 40 a2) fun i9 => (if r7.2.1 0 27 i9 < 0 then some ((-9 : Int32), r7.2) else (Option.bind (ix 40 a2) fun i10 => some (r7.2.1 0 27 i10, r7.2)))))))))
set_option maxRecDepth 20000 in
set_option maxHeartbeats 4000000 in
theorem w_m_poolOf (Θ : TT) (σ : St) (a1 : Int32) (a2 : Int32) (C : CX Θ cX12_poolOf RX12 (some .int) ({ frames := 3, cells := 0, slots := 0, locals := 70 } : Room) 4) : WA LM Θ (fun r : Int32 × St => Qm LM Θ (some (.int r.1)) r.2 (True)) 0 [some (.ref (cF Θ 0)), some (.int a1), some (.int a2), none] [] σ (m_poolOf σ a1 a2) := by
  unfold m_poolOf
  refine r_aload_n C dX12_poolOf_0 rfl ?_
  refine r_iload_n C dX12_poolOf_1 rfl ?_
  refine r_callV C (st := []) (As := [.int a1]) (d := 0) (j := 0) dX12_poolOf_2 ml_X12_177 vw_X12_isUnit ⟨_, _, _, _, rfl, rfl⟩ (dm0 (by decide)) (fun r1 e => c_m_isUnit Θ.1.2.1 (cW Θ) (cAd Θ) (cN Θ) σ a1 r1 e) rfl rfl (Nat.le_of_ble_eq_true rfl) ⟨rfl, rfl, by decide, by decide⟩ (fun r1 h2 => ?_)
  refine r_if_eq C 16 dX12_poolOf_5 (by decide) ?_ ?_
  · refine r_aload_n C dX12_poolOf_16 rfl ?_
    refine r_iconst C (-1 : Int32) dX12_poolOf_17 (by decide) ?_
    refine r_callV C (st := []) (As := [.int (-1 : Int32)]) (d := 0) (j := 0) dX12_poolOf_18 ml_X12_174 vw_X12_refuse ⟨_, _, _, _, rfl, rfl⟩ (dm0 (by decide)) (fun r3 e => c_m_refuse Θ.1.2.1 (cW Θ) (cAd Θ) (cN Θ) σ (-1 : Int32) r3 e) rfl rfl (Nat.le_of_ble_eq_true rfl) ⟨rfl, rfl, by decide, by decide⟩ (fun r3 h4 => ?_)
    exact r_iret C dX12_poolOf_21 rfl rfl trivial
  · refine r_aload_n C dX12_poolOf_8 rfl ?_
    refine r_iload_n C dX12_poolOf_9 rfl ?_
    refine r_callV C (st := []) (As := [.int a2]) (d := 0) (j := 0) dX12_poolOf_10 ml_X12_181 vw_X12_isPost ⟨_, _, _, _, rfl, rfl⟩ (dm0 (by decide)) (fun r5 e => c_m_isPost Θ.1.2.1 (cW Θ) (cAd Θ) (cN Θ) σ a2 r5 e) rfl rfl (Nat.le_of_ble_eq_true rfl) ⟨rfl, rfl, by decide, by decide⟩ (fun r5 h6 => ?_)
    refine r_if_ne C 22 dX12_poolOf_13 (by decide) ?_ ?_
    · refine r_aload_n C dX12_poolOf_22 rfl ?_
      refine r_iload_n C dX12_poolOf_23 rfl ?_
      refine r_callV C (st := []) (As := [.int a1]) (d := 0) (j := 0) dX12_poolOf_24 ml_X12_243 vw_X12_findPools ⟨_, _, _, _, rfl, rfl⟩ (dm0 (by decide)) (fun r7 e => c_m_findPools Θ.1.2.1 (cW Θ) (cAd Θ) (cN Θ) σ a1 r7 e) rfl rfl (Nat.le_of_ble_eq_true rfl) ⟨rfl, rfl, by decide, by decide⟩ (fun r7 h8 => ?_)
      refine r_istore_n C [some (.ref (cF Θ 0)), some (.int a1), some (.int a2), some (.int r7.1)] dX12_poolOf_27 rfl (by decide) rfl ?_
      refine r_aload_n C dX12_poolOf_28 rfl ?_
      refine r_getF0 C dX12_poolOf_29 fg_X12_95 (by decide) ?_
      refine r_iload_n C dX12_poolOf_32 rfl ?_
      refine r_iald (α := Unit) C dX12_poolOf_33 ag_LM_27 (fun i9 => ?_)
      refine r_if_ge C 42 dX12_poolOf_34 (by decide) ?_ ?_
      · refine r_aload_n C dX12_poolOf_42 rfl ?_
        refine r_getF0 C dX12_poolOf_43 fg_X12_95 (by decide) ?_
        refine r_iload_n C dX12_poolOf_46 rfl ?_
        refine r_iald (α := Unit) C dX12_poolOf_47 ag_LM_27 (fun i10 => ?_)
        exact r_iret C dX12_poolOf_48 rfl rfl trivial
      · refine r_bipush C (-9 : Int32) dX12_poolOf_37 (by decide) ?_
        refine r_goto C 48 dX12_poolOf_39 (by decide) ?_
        exact r_iret C dX12_poolOf_48 rfl rfl trivial
    · refine r_aload_n C dX12_poolOf_16 rfl ?_
      refine r_iconst C (-1 : Int32) dX12_poolOf_17 (by decide) ?_
      refine r_callV C (st := []) (As := [.int (-1 : Int32)]) (d := 0) (j := 0) dX12_poolOf_18 ml_X12_174 vw_X12_refuse ⟨_, _, _, _, rfl, rfl⟩ (dm0 (by decide)) (fun r11 e => c_m_refuse Θ.1.2.1 (cW Θ) (cAd Θ) (cN Θ) σ (-1 : Int32) r11 e) rfl rfl (Nat.le_of_ble_eq_true rfl) ⟨rfl, rfl, by decide, by decide⟩ (fun r11 h12 => ?_)
      exact r_iret C dX12_poolOf_21 rfl rfl trivial
theorem c_m_poolOf (l : Launch) (ω : Wd) (ad : Nat → Nat → Nat) (N : Nat → Nat) (σ : St) (a1 : Int32) (a2 : Int32) : ∀ r : Int32 × St, m_poolOf σ a1 a2 = some r → Ct l yX12_poolOf cX12_poolOf 4 (some .int) ({ frames := 3, cells := 0, slots := 0, locals := 70 } : Room) LM ω ad N [.ref (ω.2.1 0), .int a1, .int a2] σ (some (.int r.1)) r.2 (True) :=
  ct_of (o := fun r : Int32 × St => (some (.int r.1))) (s' := fun r => r.2) (P := fun r => True) [some (.ref (ω.2.1 0)), some (.int a1), some (.int a2), none] (by decide) rfl (Nat.le_of_ble_eq_true rfl) (fun Γ C _ _ => w_m_poolOf (Γ, ω, 4, ad, N, 0, 0) σ a1 a2 C)
/-- PostsEndModel.private boolean isPool(int, int) -/
def m_isPool (σ : St) (a1 : Int32) (a2 : Int32) : Option (Int32 × St) := (Option.bind (m_isUnit σ a1) fun r1 => (if r1 = 0 then some ((0 : Int32), σ) else (Option.bind (m_findPools σ a1) fun r3 => (Option.bind (m_in a2 (0 : Int32) (r3.1 - (1 : Int32))) fun r5 => (if r5 = 0 then some ((0 : Int32), r3.2) else some ((1 : Int32), r3.2))))))
set_option maxRecDepth 20000 in
set_option maxHeartbeats 4000000 in
theorem w_m_isPool (Θ : TT) (σ : St) (a1 : Int32) (a2 : Int32) (C : CX Θ cX12_isPool RX12 (some .boolean) ({ frames := 3, cells := 0, slots := 0, locals := 70 } : Room) 3) : WA LM Θ (fun r : Int32 × St => Qm LM Θ (some (.int r.1)) r.2 (narrow .boolean (.int r.1) = .int r.1)) 0 [some (.ref (cF Θ 0)), some (.int a1), some (.int a2)] [] σ (m_isPool σ a1 a2) := by
  unfold m_isPool
  refine r_aload_n C dX12_isPool_0 rfl ?_
  refine r_iload_n C dX12_isPool_1 rfl ?_
  refine r_callV C (st := []) (As := [.int a1]) (d := 0) (j := 0) dX12_isPool_2 ml_X12_177 vw_X12_isUnit ⟨_, _, _, _, rfl, rfl⟩ (dm0 (by decide)) (fun r1 e => c_m_isUnit Θ.1.2.1 (cW Θ) (cAd Θ) (cN Θ) σ a1 r1 e) rfl rfl (Nat.le_of_ble_eq_true rfl) ⟨rfl, rfl, by decide, by decide⟩ (fun r1 h2 => ?_)
  refine r_if_eq C 27 dX12_isPool_5 (by decide) ?_ ?_
  · refine r_iconst C (0 : Int32) dX12_isPool_27 (by decide) ?_
    exact r_zret C dX12_isPool_28 (show narrow .boolean (.int (0 : Int32)) = .int (0 : Int32) from rfl) rfl rfl (show narrow .boolean (.int (0 : Int32)) = .int (0 : Int32) from rfl)
  · refine r_iload_n C dX12_isPool_8 rfl ?_
    refine r_iconst C (0 : Int32) dX12_isPool_9 (by decide) ?_
    refine r_aload_n C dX12_isPool_10 rfl ?_
    refine r_iload_n C dX12_isPool_11 rfl ?_
    refine r_callV C (st := [.int (0 : Int32), .int a2]) (As := [.int a1]) (d := 0) (j := 0) dX12_isPool_12 ml_X12_243 vw_X12_findPools ⟨_, _, _, _, rfl, rfl⟩ (dm0 (by decide)) (fun r3 e => c_m_findPools Θ.1.2.1 (cW Θ) (cAd Θ) (cN Θ) σ a1 r3 e) rfl rfl (Nat.le_of_ble_eq_true rfl) ⟨rfl, rfl, by decide, by decide⟩ (fun r3 h4 => ?_)
    refine r_iconst C (1 : Int32) dX12_isPool_15 (by decide) ?_
    refine r_isub C dX12_isPool_16 ?_
    refine r_callS C (st := []) (As := [.int a2, .int (0 : Int32), .int (r3.1 - (1 : Int32))]) dX12_isPool_17 ml_X12_157 sw_X12_in (fun r5 e => c_m_in Θ.1.2.1 (cW Θ) (cAd Θ) (cN Θ) r3.2 a2 (0 : Int32) (r3.1 - (1 : Int32)) r5 e) rfl rfl (Nat.le_of_ble_eq_true rfl) ⟨rfl, rfl, by decide, by decide⟩ (fun r5 h6 => ?_)
    refine r_if_eq C 27 dX12_isPool_20 (by decide) ?_ ?_
    · refine r_iconst C (0 : Int32) dX12_isPool_27 (by decide) ?_
      exact r_zret C dX12_isPool_28 (show narrow .boolean (.int (0 : Int32)) = .int (0 : Int32) from rfl) rfl rfl (show narrow .boolean (.int (0 : Int32)) = .int (0 : Int32) from rfl)
    · refine r_iconst C (1 : Int32) dX12_isPool_23 (by decide) ?_
      refine r_goto C 28 dX12_isPool_24 (by decide) ?_
      exact r_zret C dX12_isPool_28 (show narrow .boolean (.int (1 : Int32)) = .int (1 : Int32) from rfl) rfl rfl (show narrow .boolean (.int (1 : Int32)) = .int (1 : Int32) from rfl)
theorem c_m_isPool (l : Launch) (ω : Wd) (ad : Nat → Nat → Nat) (N : Nat → Nat) (σ : St) (a1 : Int32) (a2 : Int32) : ∀ r : Int32 × St, m_isPool σ a1 a2 = some r → Ct l yX12_isPool cX12_isPool 3 (some .boolean) ({ frames := 3, cells := 0, slots := 0, locals := 70 } : Room) LM ω ad N [.ref (ω.2.1 0), .int a1, .int a2] σ (some (.int r.1)) r.2 (narrow .boolean (.int r.1) = .int r.1) :=
  ct_of (o := fun r : Int32 × St => (some (.int r.1))) (s' := fun r => r.2) (P := fun r => narrow .boolean (.int r.1) = .int r.1) [some (.ref (ω.2.1 0)), some (.int a1), some (.int a2)] (by decide) rfl (Nat.le_of_ble_eq_true rfl) (fun Γ C _ _ => w_m_isPool (Γ, ω, 3, ad, N, 0, 0) σ a1 a2 C)
/-- PostsEndModel.private boolean isOf(int, int) -/
def m_isOf (σ : St) (a1 : Int32) (a2 : Int32) : Option Int32 := (Option.bind (m_isHere σ a1) fun r1 => (if r1 = 0 then some (0 : Int32) else (Option.bind (ix 40 a1) fun i3 => (if σ.1 0 12 i3 < 0 then some (0 : Int32) else (Option.bind (ix 40 a1) fun i4 => (Option.bind (ix 40 (σ.1 0 12 i4)) fun i5 => (if σ.1 0 27 i5 = a2 then some (1 : Int32) else some (0 : Int32))))))))
set_option maxRecDepth 20000 in
set_option maxHeartbeats 4000000 in
theorem w_m_isOf (Θ : TT) (σ : St) (a1 : Int32) (a2 : Int32) (C : CX Θ cX12_isOf RX12 (some .boolean) ({ frames := 1, cells := 0, slots := 0, locals := 21 } : Room) 3) : WA LM Θ (fun r : Int32 => Qm LM Θ (some (.int r)) σ (narrow .boolean (.int r) = .int r)) 0 [some (.ref (cF Θ 0)), some (.int a1), some (.int a2)] [] σ (m_isOf σ a1 a2) := by
  unfold m_isOf
  refine r_aload_n C dX12_isOf_0 rfl ?_
  refine r_iload_n C dX12_isOf_1 rfl ?_
  refine r_callV C (st := []) (As := [.int a1]) (d := 0) (j := 0) dX12_isOf_2 ml_X12_200 vw_X12_isHere ⟨_, _, _, _, rfl, rfl⟩ (dm0 (by decide)) (fun r1 e => c_m_isHere Θ.1.2.1 (cW Θ) (cAd Θ) (cN Θ) σ a1 r1 e) rfl rfl (Nat.le_of_ble_eq_true rfl) ⟨rfl, rfl, by decide, by decide⟩ (fun r1 h2 => ?_)
  refine r_if_eq C 36 dX12_isOf_5 (by decide) ?_ ?_
  · refine r_iconst C (0 : Int32) dX12_isOf_36 (by decide) ?_
    exact r_zret C dX12_isOf_37 (show narrow .boolean (.int (0 : Int32)) = .int (0 : Int32) from rfl) rfl rfl (show narrow .boolean (.int (0 : Int32)) = .int (0 : Int32) from rfl)
  · refine r_aload_n C dX12_isOf_8 rfl ?_
    refine r_getF0 C dX12_isOf_9 fg_X12_43 (by decide) ?_
    refine r_iload_n C dX12_isOf_12 rfl ?_
    refine r_iald (α := Unit) C dX12_isOf_13 ag_LM_12 (fun i3 => ?_)
    refine r_if_lt C 36 dX12_isOf_14 (by decide) ?_ ?_
    · refine r_iconst C (0 : Int32) dX12_isOf_36 (by decide) ?_
      exact r_zret C dX12_isOf_37 (show narrow .boolean (.int (0 : Int32)) = .int (0 : Int32) from rfl) rfl rfl (show narrow .boolean (.int (0 : Int32)) = .int (0 : Int32) from rfl)
    · refine r_aload_n C dX12_isOf_17 rfl ?_
      refine r_getF0 C dX12_isOf_18 fg_X12_95 (by decide) ?_
      refine r_aload_n C dX12_isOf_21 rfl ?_
      refine r_getF0 C dX12_isOf_22 fg_X12_43 (by decide) ?_
      refine r_iload_n C dX12_isOf_25 rfl ?_
      refine r_iald (α := Unit) C dX12_isOf_26 ag_LM_12 (fun i4 => ?_)
      refine r_iald (α := Unit) C dX12_isOf_27 ag_LM_27 (fun i5 => ?_)
      refine r_iload_n C dX12_isOf_28 rfl ?_
      refine r_icmp_ne C 36 dX12_isOf_29 (by decide) ?_ ?_
      · refine r_iconst C (0 : Int32) dX12_isOf_36 (by decide) ?_
        exact r_zret C dX12_isOf_37 (show narrow .boolean (.int (0 : Int32)) = .int (0 : Int32) from rfl) rfl rfl (show narrow .boolean (.int (0 : Int32)) = .int (0 : Int32) from rfl)
      · refine r_iconst C (1 : Int32) dX12_isOf_32 (by decide) ?_
        refine r_goto C 37 dX12_isOf_33 (by decide) ?_
        exact r_zret C dX12_isOf_37 (show narrow .boolean (.int (1 : Int32)) = .int (1 : Int32) from rfl) rfl rfl (show narrow .boolean (.int (1 : Int32)) = .int (1 : Int32) from rfl)
theorem c_m_isOf (l : Launch) (ω : Wd) (ad : Nat → Nat → Nat) (N : Nat → Nat) (σ : St) (a1 : Int32) (a2 : Int32) : ∀ r : Int32, m_isOf σ a1 a2 = some r → Ct l yX12_isOf cX12_isOf 3 (some .boolean) ({ frames := 1, cells := 0, slots := 0, locals := 21 } : Room) LM ω ad N [.ref (ω.2.1 0), .int a1, .int a2] σ (some (.int r)) σ (narrow .boolean (.int r) = .int r) :=
  ct_of (o := fun r : Int32 => (some (.int r))) (s' := fun r => σ) (P := fun r => narrow .boolean (.int r) = .int r) [some (.ref (ω.2.1 0)), some (.int a1), some (.int a2)] (by decide) rfl (Nat.le_of_ble_eq_true rfl) (fun Γ C _ _ => w_m_isOf (Γ, ω, 3, ad, N, 0, 0) σ a1 a2 C)
theorem ag_LM_28 : AG LM 28 0 40 := ⟨by decide, rfl⟩
theorem ag_LM_29 : AG LM 29 0 40 := ⟨by decide, rfl⟩
theorem fg_X12_101 : FG LM RX12 101 0 0 37 (1, 29) := ⟨_, _, _, _, _, rfl, rfl, rfl, by decide, uw_X12, (in_wt 1271 (by decide +kernel) (by decide +kernel))⟩
theorem fg_X12_98 : FG LM RX12 98 0 0 36 (1, 28) := ⟨_, _, _, _, _, rfl, rfl, rfl, by decide, uw_X12, (in_wt 1270 (by decide +kernel) (by decide +kernel))⟩
/-- PostsEndModel.private boolean isAhead(int, int, int) -/
def m_isAhead (σ : St) (a1 : Int32) (a2 : Int32) (a3 : Int32) : Option Int32 := (Option.bind (ix 40 a3) fun i1 => (Option.bind (ix 40 a3) fun i2 => (if a2 = σ.1 0 29 i2 then (Option.bind (ix 40 a1) fun i3 => (Option.bind (ix 40 (σ.1 0 28 i1)) fun i4 => (if σ.1 0 10 i3 = σ.1 0 10 i4 then (if σ.1 0 28 i1 < a1 then some (1 : Int32) else some (0 : Int32)) else (Option.bind (ix 40 a1) fun i5 => (Option.bind (ix 40 (σ.1 0 28 i1)) fun i6 => (if σ.1 0 10 i6 < σ.1 0 10 i5 then some (1 : Int32) else some (0 : Int32))))))) else (Option.bind (ix 40 a3) fun i7 => (if a2 < σ.1 0 29 i7 then some (1 : Int32) else some (0 : Int32))))))
set_option maxRecDepth 20000 in
set_option maxHeartbeats 4000000 in
theorem w_m_isAhead (Θ : TT) (σ : St) (a1 : Int32) (a2 : Int32) (a3 : Int32) (C : CX Θ cX12_isAhead RX12 (some .boolean) ({ frames := 0, cells := 0, slots := 0, locals := 0 } : Room) 5) : WA LM Θ (fun r : Int32 => Qm LM Θ (some (.int r)) σ (narrow .boolean (.int r) = .int r)) 0 [some (.ref (cF Θ 0)), some (.int a1), some (.int a2), some (.int a3), none] [] σ (m_isAhead σ a1 a2 a3) := by
  unfold m_isAhead
  refine r_aload_n C dX12_isAhead_0 rfl ?_
  refine r_getF0 C dX12_isAhead_1 fg_X12_98 (by decide) ?_
  refine r_iload_n C dX12_isAhead_4 rfl ?_
  refine r_iald (α := Unit) C dX12_isAhead_5 ag_LM_28 (fun i1 => ?_)
  refine r_istore C [some (.ref (cF Θ 0)), some (.int a1), some (.int a2), some (.int a3), some (.int (σ.1 0 28 i1))] dX12_isAhead_6 rfl (by decide) rfl ?_
  refine r_iload_n C dX12_isAhead_8 rfl ?_
  refine r_aload_n C dX12_isAhead_9 rfl ?_
  refine r_getF0 C dX12_isAhead_10 fg_X12_101 (by decide) ?_
  refine r_iload_n C dX12_isAhead_13 rfl ?_
  refine r_iald (α := Unit) C dX12_isAhead_14 ag_LM_29 (fun i2 => ?_)
  refine r_icmp_eq C 36 dX12_isAhead_15 (by decide) ?_ ?_
  · refine r_aload_n C dX12_isAhead_36 rfl ?_
    refine r_getF0 C dX12_isAhead_37 fg_X12_37 (by decide) ?_
    refine r_iload_n C dX12_isAhead_40 rfl ?_
    refine r_iald (α := Unit) C dX12_isAhead_41 ag_LM_10 (fun i3 => ?_)
    refine r_aload_n C dX12_isAhead_42 rfl ?_
    refine r_getF0 C dX12_isAhead_43 fg_X12_37 (by decide) ?_
    refine r_iload C dX12_isAhead_46 rfl ?_
    refine r_iald (α := Unit) C dX12_isAhead_48 ag_LM_10 (fun i4 => ?_)
    refine r_icmp_eq C 76 dX12_isAhead_49 (by decide) ?_ ?_
    · refine r_iload_n C dX12_isAhead_76 rfl ?_
      refine r_iload C dX12_isAhead_77 rfl ?_
      refine r_icmp_le C 86 dX12_isAhead_79 (by decide) ?_ ?_
      · refine r_iconst C (0 : Int32) dX12_isAhead_86 (by decide) ?_
        exact r_zret C dX12_isAhead_87 (show narrow .boolean (.int (0 : Int32)) = .int (0 : Int32) from rfl) rfl rfl (show narrow .boolean (.int (0 : Int32)) = .int (0 : Int32) from rfl)
      · refine r_iconst C (1 : Int32) dX12_isAhead_82 (by decide) ?_
        refine r_goto C 87 dX12_isAhead_83 (by decide) ?_
        exact r_zret C dX12_isAhead_87 (show narrow .boolean (.int (1 : Int32)) = .int (1 : Int32) from rfl) rfl rfl (show narrow .boolean (.int (1 : Int32)) = .int (1 : Int32) from rfl)
    · refine r_aload_n C dX12_isAhead_52 rfl ?_
      refine r_getF0 C dX12_isAhead_53 fg_X12_37 (by decide) ?_
      refine r_iload_n C dX12_isAhead_56 rfl ?_
      refine r_iald (α := Unit) C dX12_isAhead_57 ag_LM_10 (fun i5 => ?_)
      refine r_aload_n C dX12_isAhead_58 rfl ?_
      refine r_getF0 C dX12_isAhead_59 fg_X12_37 (by decide) ?_
      refine r_iload C dX12_isAhead_62 rfl ?_
      refine r_iald (α := Unit) C dX12_isAhead_64 ag_LM_10 (fun i6 => ?_)
      refine r_icmp_le C 72 dX12_isAhead_65 (by decide) ?_ ?_
      · refine r_iconst C (0 : Int32) dX12_isAhead_72 (by decide) ?_
        refine r_goto C 87 dX12_isAhead_73 (by decide) ?_
        exact r_zret C dX12_isAhead_87 (show narrow .boolean (.int (0 : Int32)) = .int (0 : Int32) from rfl) rfl rfl (show narrow .boolean (.int (0 : Int32)) = .int (0 : Int32) from rfl)
      · refine r_iconst C (1 : Int32) dX12_isAhead_68 (by decide) ?_
        refine r_goto C 87 dX12_isAhead_69 (by decide) ?_
        exact r_zret C dX12_isAhead_87 (show narrow .boolean (.int (1 : Int32)) = .int (1 : Int32) from rfl) rfl rfl (show narrow .boolean (.int (1 : Int32)) = .int (1 : Int32) from rfl)
  · refine r_iload_n C dX12_isAhead_18 rfl ?_
    refine r_aload_n C dX12_isAhead_19 rfl ?_
    refine r_getF0 C dX12_isAhead_20 fg_X12_101 (by decide) ?_
    refine r_iload_n C dX12_isAhead_23 rfl ?_
    refine r_iald (α := Unit) C dX12_isAhead_24 ag_LM_29 (fun i7 => ?_)
    refine r_icmp_ge C 32 dX12_isAhead_25 (by decide) ?_ ?_
    · refine r_iconst C (0 : Int32) dX12_isAhead_32 (by decide) ?_
      refine r_goto C 87 dX12_isAhead_33 (by decide) ?_
      exact r_zret C dX12_isAhead_87 (show narrow .boolean (.int (0 : Int32)) = .int (0 : Int32) from rfl) rfl rfl (show narrow .boolean (.int (0 : Int32)) = .int (0 : Int32) from rfl)
    · refine r_iconst C (1 : Int32) dX12_isAhead_28 (by decide) ?_
      refine r_goto C 87 dX12_isAhead_29 (by decide) ?_
      exact r_zret C dX12_isAhead_87 (show narrow .boolean (.int (1 : Int32)) = .int (1 : Int32) from rfl) rfl rfl (show narrow .boolean (.int (1 : Int32)) = .int (1 : Int32) from rfl)
theorem c_m_isAhead (l : Launch) (ω : Wd) (ad : Nat → Nat → Nat) (N : Nat → Nat) (σ : St) (a1 : Int32) (a2 : Int32) (a3 : Int32) : ∀ r : Int32, m_isAhead σ a1 a2 a3 = some r → Ct l yX12_isAhead cX12_isAhead 5 (some .boolean) ({ frames := 0, cells := 0, slots := 0, locals := 0 } : Room) LM ω ad N [.ref (ω.2.1 0), .int a1, .int a2, .int a3] σ (some (.int r)) σ (narrow .boolean (.int r) = .int r) :=
  ct_of (o := fun r : Int32 => (some (.int r))) (s' := fun r => σ) (P := fun r => narrow .boolean (.int r) = .int r) [some (.ref (ω.2.1 0)), some (.int a1), some (.int a2), some (.int a3), none] (by decide) rfl (Nat.le_of_ble_eq_true rfl) (fun Γ C _ _ => w_m_isAhead (Γ, ω, 5, ad, N, 0, 0) σ a1 a2 a3 C)
theorem vw_X12_isAhead : VW yX12_isAhead cX12_isAhead 5 (some .boolean) 3 := ⟨⟨(in_wt 88 (by decide +kernel) (by decide +kernel)), (in_wt 1603 (by decide +kernel) (by decide +kernel)), by decide +kernel⟩, (in_wt 1602 (by decide +kernel) (by decide +kernel)), (in_wt 63 (by decide +kernel) (by decide +kernel))⟩
theorem vw_X12_isGuarded : VW yX12_isGuarded cX12_isGuarded 2 (some .boolean) 1 := ⟨⟨(in_wt 88 (by decide +kernel) (by decide +kernel)), (in_wt 1599 (by decide +kernel) (by decide +kernel)), by decide +kernel⟩, (in_wt 1598 (by decide +kernel) (by decide +kernel)), (in_wt 62 (by decide +kernel) (by decide +kernel))⟩
theorem vw_X12_isOf : VW yX12_isOf cX12_isOf 3 (some .boolean) 2 := ⟨⟨(in_wt 88 (by decide +kernel) (by decide +kernel)), (in_wt 1595 (by decide +kernel) (by decide +kernel)), by decide +kernel⟩, (in_wt 1594 (by decide +kernel) (by decide +kernel)), (in_wt 61 (by decide +kernel) (by decide +kernel))⟩
theorem fg_X12_246 : FG LM RX12 246 0 0 38 (0, 0) := ⟨_, _, _, _, _, rfl, rfl, rfl, by decide, uw_X12, (in_wt 1272 (by decide +kernel) (by decide +kernel))⟩
theorem fp_X12_246 : FP LM RX12 246 0 0 38 (0, 0) .int := ⟨_, _, _, _, _, tyX12, rfl, rfl, rfl, by decide, uw_X12, (in_wt 1272 (by decide +kernel) (by decide +kernel)), tyX12_ok, nmX12, rfl, by decide +kernel⟩
theorem ml_X12_249 : Cond.methodLink RX12 249 yX12_isOf ∈ wt := in_wt 1592 (by decide +kernel) (by decide +kernel)
theorem ml_X12_252 : Cond.methodLink RX12 252 yX12_isGuarded ∈ wt := in_wt 1596 (by decide +kernel) (by decide +kernel)
theorem ml_X12_255 : Cond.methodLink RX12 255 yX12_isAhead ∈ wt := in_wt 1600 (by decide +kernel) (by decide +kernel)
/-- PostsEndModel.private int findCut(int, int) -/
def m_findCut (σ : St) (a1 : Int32) (a2 : Int32) : Option (Int32 × St) := (lt1 (sx σ 0 0 38 (0 : Int32)) fun σ1 => (Option.bind (itr0 (S := Int32 × St) (E := St) (fun s2 => (if s2.1 < s2.2.1 0 0 11 then (Option.bind (m_isOf s2.2 s2.1 a1) fun r10 => (Option.bind (α := St) ((if r10 = 0 then some s2.2 else (Option.bind (m_isGuarded s2.2 s2.1) fun r15 => (if r15 = 0 then (Option.bind (m_markOf s2.2 s2.1 (s2.2.1 0 0 0)) fun r17 => (Option.bind (itr0 (S := Int32 × St) (E := Int32 × St) (fun s19 => (if 0 < s19.1 then (Option.bind (m_isAhead s19.2 s2.1 r17 (s19.1 - (1 : Int32))) fun r32 => (if r32 = 0 then some (.inr (s19.1, s19.2)) else (Option.bind (ix 40 (s19.1 - (1 : Int32))) fun i34 => (Option.bind (ix 40 s19.1) fun i35 => (lt1 (sx s19.2 0 28 i35 (s19.2.1 0 28 i34)) fun σ36 => (Option.bind (ix 40 (s19.1 - (1 : Int32))) fun i37 => (Option.bind (ix 40 s19.1) fun i38 => (lt1 (sx σ36 0 29 i38 (σ36.1 0 29 i37)) fun σ39 => some (.inl (s19.1 + (-1 : Int32), σ39)))))))))) else some (.inr (s19.1, s19.2)))) FU (s2.2.1 0 0 38, s2.2)) fun e24 => (Option.bind (ix 40 e24.1) fun i27 => (lt1 (sx e24.2 0 28 i27 s2.1) fun σ28 => (Option.bind (ix 40 e24.1) fun i29 => (lt1 (sx σ28 0 29 i29 r17) fun σ30 => (lt1 (sx σ30 0 0 38 ((σ30.1 0 0 38) + (1 : Int32))) fun σ31 => some σ31))))))) else some s2.2)))) fun t12 => some (.inl (s2.1 + (1 : Int32), t12)))) else some (.inr s2.2))) FU ((0 : Int32), σ1)) fun e7 => (if a2 < e7.1 0 0 38 then some (a2, e7) else some (e7.1 0 0 38, e7))))
set_option maxRecDepth 20000 in
set_option maxHeartbeats 4000000 in
theorem w_m_findCut (Θ : TT) (σ : St) (a1 : Int32) (a2 : Int32) (C : CX Θ cX12_findCut RX12 (some .int) ({ frames := 4, cells := 0, slots := 0, locals := 92 } : Room) 6) : WA LM Θ (fun r : Int32 × St => Qm LM Θ (some (.int r.1)) r.2 (True)) 0 [some (.ref (cF Θ 0)), some (.int a1), some (.int a2), none, none, none] [] σ (m_findCut σ a1 a2) := by
  unfold m_findCut
  refine r_aload_n C dX12_findCut_0 rfl ?_
  refine r_iconst C (0 : Int32) dX12_findCut_1 (by decide) ?_
  refine r_putI0 C dX12_findCut_2 fp_X12_246 (by decide) ?_
  refine WA.gen (fun σ1 => ?_)
  refine r_iconst C (0 : Int32) dX12_findCut_5 (by decide) ?_
  refine r_istore_n C [some (.ref (cF Θ 0)), some (.int a1), some (.int a2), some (.int (0 : Int32)), none, none] dX12_findCut_6 rfl (by decide) rfl ?_
  refine WA.join (α := St) 139 (fun e7 => [some (.ref (cF Θ 0)), none, some (.int a2), none, none, none]) (fun e7 => []) (fun e7 => e7) (fun e7 => True) (fun e7 h8 => ?_) (fun J9 => ?_)
  · refine r_iload_n C dX12_findCut_139 rfl ?_
    refine r_aload_n C dX12_findCut_140 rfl ?_
    refine r_getI0 C dX12_findCut_141 fg_X12_246 (by decide) ?_
    refine r_icmp_ge C 151 dX12_findCut_144 (by decide) ?_ ?_
    · refine r_aload_n C dX12_findCut_151 rfl ?_
      refine r_getI0 C dX12_findCut_152 fg_X12_246 (by decide) ?_
      exact r_iret C dX12_findCut_155 rfl rfl trivial
    · refine r_iload_n C dX12_findCut_147 rfl ?_
      refine r_goto C 155 dX12_findCut_148 (by decide) ?_
      exact r_iret C dX12_findCut_155 rfl rfl trivial
  · refine WA.wk (lv' := [some (.ref (cF Θ 0)), some (.int a1), some (.int a2), some (.int (0 : Int32)), none, none]) [true, true, true, true, false, false] rfl ?_
    refine WA.itr (S := Int32 × St) 7 (fun s2 => [some (.ref (cF Θ 0)), some (.int a1), some (.int a2), some (.int s2.1), none, none]) (fun s2 => []) (fun s2 => s2.2) (fun s2 => True) (fun s2 k6 h3 ih4 hx5 => ?_) FU ((0 : Int32), σ1) trivial
    refine r_iload_n C dX12_findCut_7 rfl ?_
    refine r_aload_n C dX12_findCut_8 rfl ?_
    refine r_getI0 C dX12_findCut_9 fg_X12_164 (by decide) ?_
    refine WA.bif ?_
    refine r_icmp_ge C 139 dX12_findCut_12 (by decide) ?_ ?_
    · refine WA.wk (lv' := [some (.ref (cF Θ 0)), none, some (.int a2), none, none, none]) [true, false, true, false, false, false] rfl ?_
      exact WA.eqK (hx5 _) (J9 s2.2 trivial)
    · refine r_aload_n C dX12_findCut_15 rfl ?_
      refine r_iload_n C dX12_findCut_16 rfl ?_
      refine r_iload_n C dX12_findCut_17 rfl ?_
      refine WA.asc ?_
      refine r_callV C (st := []) (As := [.int s2.1, .int a1]) (d := 0) (j := 0) dX12_findCut_18 ml_X12_249 vw_X12_isOf ⟨_, _, _, _, rfl, rfl⟩ (dm0 (by decide)) (fun r10 e => c_m_isOf Θ.1.2.1 (cW Θ) (cAd Θ) (cN Θ) s2.2 s2.1 a1 r10 e) rfl rfl (Nat.le_of_ble_eq_true rfl) ⟨rfl, rfl, by decide, by decide⟩ (fun r10 h11 => ?_)
      refine WA.asc ?_
      refine WA.join (α := St) 133 (fun t12 => [some (.ref (cF Θ 0)), some (.int a1), some (.int a2), some (.int s2.1), none, none]) (fun t12 => []) (fun t12 => t12) (fun t12 => True) (fun t12 h13 => ?_) (fun J14 => ?_)
      · refine r_iinc C (1 : Int32) [some (.ref (cF Θ 0)), some (.int a1), some (.int a2), some (.int (s2.1 + (1 : Int32))), none, none] dX12_findCut_133 (by decide) rfl rfl (by decide) rfl ?_
        refine r_goto C 7 dX12_findCut_136 (by decide) ?_
        refine WA.wk (lv' := [some (.ref (cF Θ 0)), some (.int a1), some (.int a2), some (.int (s2.1 + (1 : Int32))), none, none]) [true, true, true, true, false, false] rfl ?_
        exact ih4 (s2.1 + (1 : Int32), t12) trivial
      · refine WA.bif ?_
        refine r_if_eq C 133 dX12_findCut_21 (by decide) ?_ ?_
        · refine WA.wk (lv' := [some (.ref (cF Θ 0)), some (.int a1), some (.int a2), some (.int s2.1), none, none]) [true, true, true, true, false, false] rfl ?_
          exact J14 s2.2 trivial
        · refine r_aload_n C dX12_findCut_24 rfl ?_
          refine r_iload_n C dX12_findCut_25 rfl ?_
          refine WA.asc ?_
          refine r_callV C (st := []) (As := [.int s2.1]) (d := 0) (j := 0) dX12_findCut_26 ml_X12_252 vw_X12_isGuarded ⟨_, _, _, _, rfl, rfl⟩ (dm0 (by decide)) (fun r15 e => c_m_isGuarded Θ.1.2.1 (cW Θ) (cAd Θ) (cN Θ) s2.2 s2.1 r15 e) rfl rfl (Nat.le_of_ble_eq_true rfl) ⟨rfl, rfl, by decide, by decide⟩ (fun r15 h16 => ?_)
          refine WA.bif ?_
          refine r_if_ne C 133 dX12_findCut_29 (by decide) ?_ ?_
          · refine WA.wk (lv' := [some (.ref (cF Θ 0)), some (.int a1), some (.int a2), some (.int s2.1), none, none]) [true, true, true, true, false, false] rfl ?_
            exact J14 s2.2 trivial
          · refine r_aload_n C dX12_findCut_32 rfl ?_
            refine r_iload_n C dX12_findCut_33 rfl ?_
            refine r_aload_n C dX12_findCut_34 rfl ?_
            refine r_getI0 C dX12_findCut_35 fg_X12_167 (by decide) ?_
            refine WA.asc ?_
            refine r_callV C (st := []) (As := [.int s2.1, .int (s2.2.1 0 0 0)]) (d := 0) (j := 0) dX12_findCut_38 ml_X12_233 vw_X12_markOf ⟨_, _, _, _, rfl, rfl⟩ (dm0 (by decide)) (fun r17 e => c_m_markOf Θ.1.2.1 (cW Θ) (cAd Θ) (cN Θ) s2.2 s2.1 (s2.2.1 0 0 0) r17 e) rfl rfl (Nat.le_of_ble_eq_true rfl) ⟨rfl, rfl, by decide, by decide⟩ (fun r17 h18 => ?_)
            refine r_istore C [some (.ref (cF Θ 0)), some (.int a1), some (.int a2), some (.int s2.1), some (.int r17), none] dX12_findCut_41 rfl (by decide) rfl ?_
            refine r_aload_n C dX12_findCut_43 rfl ?_
            refine r_getI0 C dX12_findCut_44 fg_X12_246 (by decide) ?_
            refine r_istore C [some (.ref (cF Θ 0)), some (.int a1), some (.int a2), some (.int s2.1), some (.int r17), some (.int (s2.2.1 0 0 38))] dX12_findCut_47 rfl (by decide) rfl ?_
            refine WA.asc ?_
            refine WA.join (α := Int32 × St) 106 (fun e24 => [some (.ref (cF Θ 0)), some (.int a1), some (.int a2), some (.int s2.1), some (.int r17), some (.int e24.1)]) (fun e24 => []) (fun e24 => e24.2) (fun e24 => True) (fun e24 h25 => ?_) (fun J26 => ?_)
            · refine r_aload_n C dX12_findCut_106 rfl ?_
              refine r_getF0 C dX12_findCut_107 fg_X12_98 (by decide) ?_
              refine r_iload C dX12_findCut_110 rfl ?_
              refine r_iload_n C dX12_findCut_112 rfl ?_
              refine WA.asc ?_
              refine r_iast C dX12_findCut_113 ag_LM_28 (fun i27 => ?_)
              refine WA.genB (fun σ28 => ?_)
              refine r_aload_n C dX12_findCut_114 rfl ?_
              refine r_getF0 C dX12_findCut_115 fg_X12_101 (by decide) ?_
              refine r_iload C dX12_findCut_118 rfl ?_
              refine r_iload C dX12_findCut_120 rfl ?_
              refine WA.asc ?_
              refine r_iast C dX12_findCut_122 ag_LM_29 (fun i29 => ?_)
              refine WA.genB (fun σ30 => ?_)
              refine r_aload_n C dX12_findCut_123 rfl ?_
              refine r_dup C dX12_findCut_124 rfl ?_
              refine r_getI0 C dX12_findCut_125 fg_X12_246 (by decide) ?_
              refine r_iconst C (1 : Int32) dX12_findCut_128 (by decide) ?_
              refine r_iadd C dX12_findCut_129 ?_
              refine r_putI0 C dX12_findCut_130 fp_X12_246 (by decide) ?_
              refine WA.genB (fun σ31 => ?_)
              refine WA.wk (lv' := [some (.ref (cF Θ 0)), some (.int a1), some (.int a2), some (.int s2.1), none, none]) [true, true, true, true, false, false] rfl ?_
              exact J14 σ31 trivial
            · refine WA.wk (lv' := [some (.ref (cF Θ 0)), some (.int a1), some (.int a2), some (.int s2.1), some (.int r17), some (.int (s2.2.1 0 0 38))]) [true, true, true, true, true, true] rfl ?_
              refine WA.itr (S := Int32 × St) 49 (fun s19 => [some (.ref (cF Θ 0)), some (.int a1), some (.int a2), some (.int s2.1), some (.int r17), some (.int s19.1)]) (fun s19 => []) (fun s19 => s19.2) (fun s19 => True) (fun s19 k23 h20 ih21 hx22 => ?_) FU (s2.2.1 0 0 38, s2.2) trivial
              refine r_iload C dX12_findCut_49 rfl ?_
              refine WA.bif ?_
              refine r_if_le C 106 dX12_findCut_51 (by decide) ?_ ?_
              · refine WA.wk (lv' := [some (.ref (cF Θ 0)), some (.int a1), some (.int a2), some (.int s2.1), some (.int r17), some (.int s19.1)]) [true, true, true, true, true, true] rfl ?_
                exact WA.eqK (hx22 _) (J26 (s19.1, s19.2) trivial)
              · refine r_aload_n C dX12_findCut_54 rfl ?_
                refine r_iload_n C dX12_findCut_55 rfl ?_
                refine r_iload C dX12_findCut_56 rfl ?_
                refine r_iload C dX12_findCut_58 rfl ?_
                refine r_iconst C (1 : Int32) dX12_findCut_60 (by decide) ?_
                refine r_isub C dX12_findCut_61 ?_
                refine WA.asc ?_
                refine r_callV C (st := []) (As := [.int s2.1, .int r17, .int (s19.1 - (1 : Int32))]) (d := 0) (j := 0) dX12_findCut_62 ml_X12_255 vw_X12_isAhead ⟨_, _, _, _, rfl, rfl⟩ (dm0 (by decide)) (fun r32 e => c_m_isAhead Θ.1.2.1 (cW Θ) (cAd Θ) (cN Θ) s19.2 s2.1 r17 (s19.1 - (1 : Int32)) r32 e) rfl rfl (Nat.le_of_ble_eq_true rfl) ⟨rfl, rfl, by decide, by decide⟩ (fun r32 h33 => ?_)
                refine WA.bif ?_
                refine r_if_eq C 106 dX12_findCut_65 (by decide) ?_ ?_
                · refine WA.wk (lv' := [some (.ref (cF Θ 0)), some (.int a1), some (.int a2), some (.int s2.1), some (.int r17), some (.int s19.1)]) [true, true, true, true, true, true] rfl ?_
                  exact WA.eqK (hx22 _) (J26 (s19.1, s19.2) trivial)
                · refine r_aload_n C dX12_findCut_68 rfl ?_
                  refine r_getF0 C dX12_findCut_69 fg_X12_98 (by decide) ?_
                  refine r_iload C dX12_findCut_72 rfl ?_
                  refine r_aload_n C dX12_findCut_74 rfl ?_
                  refine r_getF0 C dX12_findCut_75 fg_X12_98 (by decide) ?_
                  refine r_iload C dX12_findCut_78 rfl ?_
                  refine r_iconst C (1 : Int32) dX12_findCut_80 (by decide) ?_
                  refine r_isub C dX12_findCut_81 ?_
                  refine WA.asc ?_
                  refine r_iald (α := Unit) C dX12_findCut_82 ag_LM_28 (fun i34 => ?_)
                  refine WA.asc ?_
                  refine r_iast C dX12_findCut_83 ag_LM_28 (fun i35 => ?_)
                  refine WA.genB (fun σ36 => ?_)
                  refine r_aload_n C dX12_findCut_84 rfl ?_
                  refine r_getF0 C dX12_findCut_85 fg_X12_101 (by decide) ?_
                  refine r_iload C dX12_findCut_88 rfl ?_
                  refine r_aload_n C dX12_findCut_90 rfl ?_
                  refine r_getF0 C dX12_findCut_91 fg_X12_101 (by decide) ?_
                  refine r_iload C dX12_findCut_94 rfl ?_
                  refine r_iconst C (1 : Int32) dX12_findCut_96 (by decide) ?_
                  refine r_isub C dX12_findCut_97 ?_
                  refine WA.asc ?_
                  refine r_iald (α := Unit) C dX12_findCut_98 ag_LM_29 (fun i37 => ?_)
                  refine WA.asc ?_
                  refine r_iast C dX12_findCut_99 ag_LM_29 (fun i38 => ?_)
                  refine WA.genB (fun σ39 => ?_)
                  refine r_iinc C (-1 : Int32) [some (.ref (cF Θ 0)), some (.int a1), some (.int a2), some (.int s2.1), some (.int r17), some (.int (s19.1 + (-1 : Int32)))] dX12_findCut_100 (by decide) rfl rfl (by decide) rfl ?_
                  refine r_goto C 49 dX12_findCut_103 (by decide) ?_
                  refine WA.wk (lv' := [some (.ref (cF Θ 0)), some (.int a1), some (.int a2), some (.int s2.1), some (.int r17), some (.int (s19.1 + (-1 : Int32)))]) [true, true, true, true, true, true] rfl ?_
                  exact ih21 (s19.1 + (-1 : Int32), σ39) trivial
theorem c_m_findCut (l : Launch) (ω : Wd) (ad : Nat → Nat → Nat) (N : Nat → Nat) (σ : St) (a1 : Int32) (a2 : Int32) : ∀ r : Int32 × St, m_findCut σ a1 a2 = some r → Ct l yX12_findCut cX12_findCut 6 (some .int) ({ frames := 4, cells := 0, slots := 0, locals := 92 } : Room) LM ω ad N [.ref (ω.2.1 0), .int a1, .int a2] σ (some (.int r.1)) r.2 (True) :=
  ct_of (o := fun r : Int32 × St => (some (.int r.1))) (s' := fun r => r.2) (P := fun r => True) [some (.ref (ω.2.1 0)), some (.int a1), some (.int a2), none, none, none] (by decide) rfl (Nat.le_of_ble_eq_true rfl) (fun Γ C _ _ => w_m_findCut (Γ, ω, 6, ad, N, 0, 0) σ a1 a2 C)
/-- PostsEndModel.private static int wrongMany(int) -/
def m_wrongMany (a0 : Int32) : Option Int32 := (if a0 < 0 then some (-4 : Int32) else (if (40 : Int32) < a0 then some (-6 : Int32) else some (0 : Int32)))
set_option maxRecDepth 20000 in
set_option maxHeartbeats 4000000 in
theorem w_m_wrongMany (Θ : TT) (σ : St) (a0 : Int32) (C : CX Θ cX12_wrongMany RX12 (some .int) ({ frames := 0, cells := 0, slots := 0, locals := 0 } : Room) 1) : WA LM Θ (fun r : Int32 => Qm LM Θ (some (.int r)) σ (True)) 0 [some (.int a0)] [] σ (m_wrongMany a0) := by
  unfold m_wrongMany
  refine r_iload_n C dX12_wrongMany_0 rfl ?_
  refine r_if_ge C 9 dX12_wrongMany_1 (by decide) ?_ ?_
  · refine r_iload_n C dX12_wrongMany_9 rfl ?_
    refine r_bipush C (40 : Int32) dX12_wrongMany_10 (by decide) ?_
    refine r_icmp_le C 20 dX12_wrongMany_12 (by decide) ?_ ?_
    · refine r_iconst C (0 : Int32) dX12_wrongMany_20 (by decide) ?_
      exact r_iret C dX12_wrongMany_21 rfl rfl trivial
    · refine r_bipush C (-6 : Int32) dX12_wrongMany_15 (by decide) ?_
      refine r_goto C 21 dX12_wrongMany_17 (by decide) ?_
      exact r_iret C dX12_wrongMany_21 rfl rfl trivial
  · refine r_bipush C (-4 : Int32) dX12_wrongMany_4 (by decide) ?_
    refine r_goto C 21 dX12_wrongMany_6 (by decide) ?_
    exact r_iret C dX12_wrongMany_21 rfl rfl trivial
theorem c_m_wrongMany (l : Launch) (ω : Wd) (ad : Nat → Nat → Nat) (N : Nat → Nat) (σ : St) (a0 : Int32) : ∀ r : Int32, m_wrongMany a0 = some r → Ct l yX12_wrongMany cX12_wrongMany 1 (some .int) ({ frames := 0, cells := 0, slots := 0, locals := 0 } : Room) LM ω ad N [.int a0] σ (some (.int r)) σ (True) :=
  ct_of (o := fun r : Int32 => (some (.int r))) (s' := fun r => σ) (P := fun r => True) [some (.int a0)] (by decide) rfl (Nat.le_of_ble_eq_true rfl) (fun Γ C _ _ => w_m_wrongMany (Γ, ω, 1, ad, N, 0, 0) σ a0 C)
theorem vw_X12_findCut : VW yX12_findCut cX12_findCut 6 (some .int) 2 := ⟨⟨(in_wt 88 (by decide +kernel) (by decide +kernel)), (in_wt 1591 (by decide +kernel) (by decide +kernel)), by decide +kernel⟩, (in_wt 1590 (by decide +kernel) (by decide +kernel)), (in_wt 60 (by decide +kernel) (by decide +kernel))⟩
theorem vw_X12_isPool : VW yX12_isPool cX12_isPool 3 (some .boolean) 2 := ⟨⟨(in_wt 88 (by decide +kernel) (by decide +kernel)), (in_wt 1584 (by decide +kernel) (by decide +kernel)), by decide +kernel⟩, (in_wt 1583 (by decide +kernel) (by decide +kernel)), (in_wt 59 (by decide +kernel) (by decide +kernel))⟩
theorem sw_X12_wrongMany : SW yX12_wrongMany cX12_wrongMany 1 (some .int) 1 := ⟨⟨(in_wt 88 (by decide +kernel) (by decide +kernel)), (in_wt 1587 (by decide +kernel) (by decide +kernel)), by decide +kernel⟩, (in_wt 1586 (by decide +kernel) (by decide +kernel))⟩
theorem ml_X12_258 : Cond.methodLink RX12 258 yX12_isPool ∈ wt := in_wt 1581 (by decide +kernel) (by decide +kernel)
theorem ml_X12_261 : Cond.methodLink RX12 261 yX12_wrongMany ∈ wt := in_wt 1585 (by decide +kernel) (by decide +kernel)
theorem ml_X12_264 : Cond.methodLink RX12 264 yX12_findCut ∈ wt := in_wt 1588 (by decide +kernel) (by decide +kernel)
/-- PostsEndModel.public int cut(int, int, int, int) -/
def m_cut (σ : St) (a1 : Int32) (a2 : Int32) (a3 : Int32) (a4 : Int32) : Option (Int32 × St) := (Option.bind (m_isPool σ a1 a2) fun r1 => (if r1.1 = 0 then (Option.bind (m_refuse r1.2 (-1 : Int32)) fun r14 => some (r14.1, r14.2)) else (Option.bind (m_wrongMany a3) fun r3 => (if r3 < 0 then (Option.bind (m_wrongMany a3) fun r10 => (Option.bind (m_refuse r1.2 r10) fun r12 => some (r12.1, r12.2))) else (Option.bind (m_findCut r1.2 a2 a3) fun r5 => (Option.bind (m_in a4 (0 : Int32) (r5.1 - (1 : Int32))) fun r7 => (if r7 = 0 then some ((-9 : Int32), r5.2) else (Option.bind (ix 40 a4) fun i9 => some (r5.2.1 0 28 i9, r5.2)))))))))
set_option maxRecDepth 20000 in
set_option maxHeartbeats 4000000 in
theorem w_m_cut (Θ : TT) (σ : St) (a1 : Int32) (a2 : Int32) (a3 : Int32) (a4 : Int32) (C : CX Θ cX12_cut RX12 (some .int) ({ frames := 5, cells := 0, slots := 0, locals := 117 } : Room) 6) : WA LM Θ (fun r : Int32 × St => Qm LM Θ (some (.int r.1)) r.2 (True)) 0 [some (.ref (cF Θ 0)), some (.int a1), some (.int a2), some (.int a3), some (.int a4), none] [] σ (m_cut σ a1 a2 a3 a4) := by
  unfold m_cut
  refine r_aload_n C dX12_cut_0 rfl ?_
  refine r_iload_n C dX12_cut_1 rfl ?_
  refine r_iload_n C dX12_cut_2 rfl ?_
  refine r_callV C (st := []) (As := [.int a1, .int a2]) (d := 0) (j := 0) dX12_cut_3 ml_X12_258 vw_X12_isPool ⟨_, _, _, _, rfl, rfl⟩ (dm0 (by decide)) (fun r1 e => c_m_isPool Θ.1.2.1 (cW Θ) (cAd Θ) (cN Θ) σ a1 a2 r1 e) rfl rfl (Nat.le_of_ble_eq_true rfl) ⟨rfl, rfl, by decide, by decide⟩ (fun r1 h2 => ?_)
  refine r_if_ne C 15 dX12_cut_6 (by decide) ?_ ?_
  · refine r_iload_n C dX12_cut_15 rfl ?_
    refine r_callS C (st := []) (As := [.int a3]) dX12_cut_16 ml_X12_261 sw_X12_wrongMany (fun r3 e => c_m_wrongMany Θ.1.2.1 (cW Θ) (cAd Θ) (cN Θ) r1.2 a3 r3 e) rfl rfl (Nat.le_of_ble_eq_true rfl) ⟨rfl, rfl, by decide, by decide⟩ (fun r3 h4 => ?_)
    refine r_if_ge C 31 dX12_cut_19 (by decide) ?_ ?_
    · refine r_aload_n C dX12_cut_31 rfl ?_
      refine r_iload_n C dX12_cut_32 rfl ?_
      refine r_iload_n C dX12_cut_33 rfl ?_
      refine r_callV C (st := []) (As := [.int a2, .int a3]) (d := 0) (j := 0) dX12_cut_34 ml_X12_264 vw_X12_findCut ⟨_, _, _, _, rfl, rfl⟩ (dm0 (by decide)) (fun r5 e => c_m_findCut Θ.1.2.1 (cW Θ) (cAd Θ) (cN Θ) r1.2 a2 a3 r5 e) rfl rfl (Nat.le_of_ble_eq_true rfl) ⟨rfl, rfl, by decide, by decide⟩ (fun r5 h6 => ?_)
      refine r_istore C [some (.ref (cF Θ 0)), some (.int a1), some (.int a2), some (.int a3), some (.int a4), some (.int r5.1)] dX12_cut_37 rfl (by decide) rfl ?_
      refine r_iload C dX12_cut_39 rfl ?_
      refine r_iconst C (0 : Int32) dX12_cut_41 (by decide) ?_
      refine r_iload C dX12_cut_42 rfl ?_
      refine r_iconst C (1 : Int32) dX12_cut_44 (by decide) ?_
      refine r_isub C dX12_cut_45 ?_
      refine r_callS C (st := []) (As := [.int a4, .int (0 : Int32), .int (r5.1 - (1 : Int32))]) dX12_cut_46 ml_X12_157 sw_X12_in (fun r7 e => c_m_in Θ.1.2.1 (cW Θ) (cAd Θ) (cN Θ) r5.2 a4 (0 : Int32) (r5.1 - (1 : Int32)) r7 e) rfl rfl (Nat.le_of_ble_eq_true rfl) ⟨rfl, rfl, by decide, by decide⟩ (fun r7 h8 => ?_)
      refine r_if_eq C 62 dX12_cut_49 (by decide) ?_ ?_
      · refine r_bipush C (-9 : Int32) dX12_cut_62 (by decide) ?_
        exact r_iret C dX12_cut_64 rfl rfl trivial
      · refine r_aload_n C dX12_cut_52 rfl ?_
        refine r_getF0 C dX12_cut_53 fg_X12_98 (by decide) ?_
        refine r_iload C dX12_cut_56 rfl ?_
        refine r_iald (α := Unit) C dX12_cut_58 ag_LM_28 (fun i9 => ?_)
        refine r_goto C 64 dX12_cut_59 (by decide) ?_
        exact r_iret C dX12_cut_64 rfl rfl trivial
    · refine r_aload_n C dX12_cut_22 rfl ?_
      refine r_iload_n C dX12_cut_23 rfl ?_
      refine r_callS C (st := [.ref (cF Θ 0)]) (As := [.int a3]) dX12_cut_24 ml_X12_261 sw_X12_wrongMany (fun r10 e => c_m_wrongMany Θ.1.2.1 (cW Θ) (cAd Θ) (cN Θ) r1.2 a3 r10 e) rfl rfl (Nat.le_of_ble_eq_true rfl) ⟨rfl, rfl, by decide, by decide⟩ (fun r10 h11 => ?_)
      refine r_callV C (st := []) (As := [.int r10]) (d := 0) (j := 0) dX12_cut_27 ml_X12_174 vw_X12_refuse ⟨_, _, _, _, rfl, rfl⟩ (dm0 (by decide)) (fun r12 e => c_m_refuse Θ.1.2.1 (cW Θ) (cAd Θ) (cN Θ) r1.2 r10 r12 e) rfl rfl (Nat.le_of_ble_eq_true rfl) ⟨rfl, rfl, by decide, by decide⟩ (fun r12 h13 => ?_)
      exact r_iret C dX12_cut_30 rfl rfl trivial
  · refine r_aload_n C dX12_cut_9 rfl ?_
    refine r_iconst C (-1 : Int32) dX12_cut_10 (by decide) ?_
    refine r_callV C (st := []) (As := [.int (-1 : Int32)]) (d := 0) (j := 0) dX12_cut_11 ml_X12_174 vw_X12_refuse ⟨_, _, _, _, rfl, rfl⟩ (dm0 (by decide)) (fun r14 e => c_m_refuse Θ.1.2.1 (cW Θ) (cAd Θ) (cN Θ) r1.2 (-1 : Int32) r14 e) rfl rfl (Nat.le_of_ble_eq_true rfl) ⟨rfl, rfl, by decide, by decide⟩ (fun r14 h15 => ?_)
    exact r_iret C dX12_cut_14 rfl rfl trivial
theorem c_m_cut (l : Launch) (ω : Wd) (ad : Nat → Nat → Nat) (N : Nat → Nat) (σ : St) (a1 : Int32) (a2 : Int32) (a3 : Int32) (a4 : Int32) : ∀ r : Int32 × St, m_cut σ a1 a2 a3 a4 = some r → Ct l yX12_cut cX12_cut 6 (some .int) ({ frames := 5, cells := 0, slots := 0, locals := 117 } : Room) LM ω ad N [.ref (ω.2.1 0), .int a1, .int a2, .int a3, .int a4] σ (some (.int r.1)) r.2 (True) :=
  ct_of (o := fun r : Int32 × St => (some (.int r.1))) (s' := fun r => r.2) (P := fun r => True) [some (.ref (ω.2.1 0)), some (.int a1), some (.int a2), some (.int a3), some (.int a4), none] (by decide) rfl (Nat.le_of_ble_eq_true rfl) (fun Γ C _ _ => w_m_cut (Γ, ω, 6, ad, N, 0, 0) σ a1 a2 a3 a4 C)
