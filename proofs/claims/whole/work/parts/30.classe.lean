/-- PostsEnd$Offering.private int leastPick(int, int) -/
def p_Offering_leastPick (σ : St) (a1 : Int32) (a2 : Int32) : Option Int32 := (Option.bind (p_Offering_bestFrom σ a1 a2) fun r1 => (Option.bind (itr0 (S := Int32) (E := ((Unit) ⊕ (Int32))) (fun s3 => (if s3 < σ.1 0 6 6 then (Option.bind (p_Offering_bestWith σ a1 s3 a2) fun r11 => (if r11 = r1 then some (.inr (.inr s3)) else some (.inl (s3 + (1 : Int32))))) else some (.inr (.inl ())))) FU (0 : Int32)) (Sum.elim (fun e8 => some (-1 : Int32)) some)))
set_option maxRecDepth 20000 in
set_option maxHeartbeats 4000000 in
theorem w_p_Offering_leastPick (Θ : TT) (σ : St) (a1 : Int32) (a2 : Int32) (C : CX Θ cX4_leastPick RX4 (some .int) ({ frames := 2, cells := 0, slots := 0, locals := 47 } : Room) 5) : WA LC Θ (fun r : Int32 => Qm LC Θ (some (.int r)) σ (True)) 0 [some (.ref (cF Θ 6)), some (.int a1), some (.int a2), none, none] [] σ (p_Offering_leastPick σ a1 a2) := by
  unfold p_Offering_leastPick
  refine r_aload_n C dX4_leastPick_0 rfl ?_
  refine r_iload_n C dX4_leastPick_1 rfl ?_
  refine r_iload_n C dX4_leastPick_2 rfl ?_
  refine r_callV C (st := []) (As := [.int a1, .int a2]) (d := 0) (j := 6) dX4_leastPick_3 ml_X4_98 vw_X4_bestFrom ⟨_, _, _, _, rfl, rfl⟩ (dm0 (by decide)) (fun r1 e => c_p_Offering_bestFrom Θ.1.2.1 (cW Θ) (cAd Θ) (cN Θ) σ a1 a2 r1 e) rfl rfl (Nat.le_of_ble_eq_true rfl) ⟨rfl, rfl, by decide, by decide⟩ (fun r1 h2 => ?_)
  refine r_istore_n C [some (.ref (cF Θ 6)), some (.int a1), some (.int a2), some (.int r1), none] dX4_leastPick_6 rfl (by decide) rfl ?_
  refine r_iconst C (0 : Int32) dX4_leastPick_7 (by decide) ?_
  refine r_istore C [some (.ref (cF Θ 6)), some (.int a1), some (.int a2), some (.int r1), some (.int (0 : Int32))] dX4_leastPick_8 rfl (by decide) rfl ?_
  refine WA.joinL (α := Unit) 40 (fun e8 => [none, none, none, none, none]) (fun e8 => []) (fun e8 => σ) (fun e8 => True) (fun e8 h9 => ?_) (fun J10 => ?_)
  · refine WA.sml ?_
    refine r_iconst C (-1 : Int32) dX4_leastPick_40 (by decide) ?_
    exact r_iret C dX4_leastPick_41 rfl rfl trivial
  · refine WA.wk (lv' := [some (.ref (cF Θ 6)), some (.int a1), some (.int a2), some (.int r1), some (.int (0 : Int32))]) [true, true, true, true, true] rfl ?_
    refine WA.itr (S := Int32) 10 (fun s3 => [some (.ref (cF Θ 6)), some (.int a1), some (.int a2), some (.int r1), some (.int s3)]) (fun s3 => []) (fun s3 => σ) (fun s3 => True) (fun s3 k7 h4 ih5 hx6 => ?_) FU (0 : Int32) trivial
    refine r_iload C dX4_leastPick_10 rfl ?_
    refine r_aload_n C dX4_leastPick_12 rfl ?_
    refine r_getI0 C dX4_leastPick_13 fg_X4_45 (by decide) ?_
    refine WA.bif ?_
    refine r_icmp_ge C 40 dX4_leastPick_16 (by decide) ?_ ?_
    · refine WA.wk (lv' := [none, none, none, none, none]) [false, false, false, false, false] rfl ?_
      exact WA.eqK (hx6 _) (J10 () trivial)
    · refine r_aload_n C dX4_leastPick_19 rfl ?_
      refine r_iload_n C dX4_leastPick_20 rfl ?_
      refine r_iload C dX4_leastPick_21 rfl ?_
      refine r_iload_n C dX4_leastPick_23 rfl ?_
      refine WA.asc ?_
      refine r_callV C (st := []) (As := [.int a1, .int s3, .int a2]) (d := 0) (j := 6) dX4_leastPick_24 ml_X4_112 vw_X4_bestWith ⟨_, _, _, _, rfl, rfl⟩ (dm0 (by decide)) (fun r11 e => c_p_Offering_bestWith Θ.1.2.1 (cW Θ) (cAd Θ) (cN Θ) σ a1 s3 a2 r11 e) rfl rfl (Nat.le_of_ble_eq_true rfl) ⟨rfl, rfl, by decide, by decide⟩ (fun r11 h12 => ?_)
      refine r_iload_n C dX4_leastPick_27 rfl ?_
      refine WA.bif ?_
      refine r_icmp_ne C 34 dX4_leastPick_28 (by decide) ?_ ?_
      · refine r_iinc C (1 : Int32) [some (.ref (cF Θ 6)), some (.int a1), some (.int a2), some (.int r1), some (.int (s3 + (1 : Int32)))] dX4_leastPick_34 (by decide) rfl rfl (by decide) rfl ?_
        refine r_goto C 10 dX4_leastPick_37 (by decide) ?_
        refine WA.wk (lv' := [some (.ref (cF Θ 6)), some (.int a1), some (.int a2), some (.int r1), some (.int (s3 + (1 : Int32)))]) [true, true, true, true, true] rfl ?_
        exact ih5 (s3 + (1 : Int32)) trivial
      · refine r_iload C dX4_leastPick_31 rfl ?_
        refine WA.eqK (hx6 _) ?_
        exact r_iret C dX4_leastPick_33 rfl rfl trivial
theorem c_p_Offering_leastPick (l : Launch) (ω : Wd) (ad : Nat → Nat → Nat) (N : Nat → Nat) (σ : St) (a1 : Int32) (a2 : Int32) : ∀ r : Int32, p_Offering_leastPick σ a1 a2 = some r → Ct l yX4_leastPick cX4_leastPick 5 (some .int) ({ frames := 2, cells := 0, slots := 0, locals := 47 } : Room) LC ω ad N [.ref (ω.2.1 6), .int a1, .int a2] σ (some (.int r)) σ (True) :=
  ct_of (o := fun r : Int32 => (some (.int r))) (s' := fun r => σ) (P := fun r => True) [some (.ref (ω.2.1 6)), some (.int a1), some (.int a2), none, none] (by decide) rfl (Nat.le_of_ble_eq_true rfl) (fun Γ C _ _ => w_p_Offering_leastPick (Γ, ω, 5, ad, N, 0, 0) σ a1 a2 C)
theorem ag_LC_32 : AG LC 32 2 8 := ⟨by decide, rfl⟩
theorem vw_X4_leastPick : VW yX4_leastPick cX4_leastPick 5 (some .int) 2 := ⟨⟨(in_wt 86 (by decide +kernel) (by decide +kernel)), (in_wt 1045 (by decide +kernel) (by decide +kernel)), by decide +kernel⟩, (in_wt 1044 (by decide +kernel) (by decide +kernel)), (in_wt 29 (by decide +kernel) (by decide +kernel))⟩
theorem fg_X4_30 : FG LC RX4 30 0 6 5 (1, 32) := ⟨_, _, _, _, _, rfl, rfl, rfl, by decide, uw_X4, (in_wt 314 (by decide +kernel) (by decide +kernel))⟩
theorem ml_X4_121 : Cond.methodLink RX4 121 yX4_leastPick ∈ wt := in_wt 1042 (by decide +kernel) (by decide +kernel)
/-- PostsEnd$Offering.private void pickOffers() -/
def p_Offering_pickOffers (σ : St) : Option St := (Option.bind (itr0 (S := Int32 × Int32 × St) (E := St) (fun s1 => (if s1.2.1 < s1.2.2.1 0 6 7 then (if s1.2.1 < (8 : Int32) then (Option.bind (p_Offering_leastPick s1.2.2 s1.2.1 s1.1) fun r9 => (Option.bind (p_Offering_vacantAt s1.2.2 r9) fun r11 => (Option.bind (ix 8 s1.2.1) fun i13 => (lt1 (sy s1.2.2 0 32 i13 r11) fun σ14 => (Option.bind (α := Int32) ((if r9 < 0 then some s1.1 else some (s1.1 ||| ((1 : Int32) <<< (r9 &&& 31))))) fun t15 => some (.inl (t15, s1.2.1 + (1 : Int32), σ14))))))) else some (.inr s1.2.2)) else some (.inr s1.2.2))) FU ((0 : Int32), (0 : Int32), σ)) fun e6 => some e6)
set_option maxRecDepth 20000 in
set_option maxHeartbeats 4000000 in
theorem w_p_Offering_pickOffers (Θ : TT) (σ : St)  (C : CX Θ cX4_pickOffers RX4 none ({ frames := 3, cells := 0, slots := 0, locals := 71 } : Room) 4) : WA LC Θ (fun r : St => Qm LC Θ none r (True)) 0 [some (.ref (cF Θ 6)), none, none, none] [] σ (p_Offering_pickOffers σ) := by
  unfold p_Offering_pickOffers
  refine r_iconst C (0 : Int32) dX4_pickOffers_0 (by decide) ?_
  refine r_istore_n C [some (.ref (cF Θ 6)), some (.int (0 : Int32)), none, none] dX4_pickOffers_1 rfl (by decide) rfl ?_
  refine r_iconst C (0 : Int32) dX4_pickOffers_2 (by decide) ?_
  refine r_istore_n C [some (.ref (cF Θ 6)), some (.int (0 : Int32)), some (.int (0 : Int32)), none] dX4_pickOffers_3 rfl (by decide) rfl ?_
  refine WA.join (α := St) 52 (fun e6 => [none, none, none, none]) (fun e6 => []) (fun e6 => e6) (fun e6 => True) (fun e6 h7 => ?_) (fun J8 => ?_)
  · exact r_vret C dX4_pickOffers_52 rfl rfl trivial
  · refine WA.wk (lv' := [some (.ref (cF Θ 6)), some (.int (0 : Int32)), some (.int (0 : Int32)), none]) [true, true, true, false] rfl ?_
    refine WA.itr (S := Int32 × Int32 × St) 4 (fun s1 => [some (.ref (cF Θ 6)), some (.int s1.1), some (.int s1.2.1), none]) (fun s1 => []) (fun s1 => s1.2.2) (fun s1 => True) (fun s1 k5 h2 ih3 hx4 => ?_) FU ((0 : Int32), (0 : Int32), σ) trivial
    refine r_iload_n C dX4_pickOffers_4 rfl ?_
    refine r_aload_n C dX4_pickOffers_5 rfl ?_
    refine r_getI0 C dX4_pickOffers_6 fg_X4_37 (by decide) ?_
    refine WA.bif ?_
    refine r_icmp_ge C 52 dX4_pickOffers_9 (by decide) ?_ ?_
    · refine WA.wk (lv' := [none, none, none, none]) [false, false, false, false] rfl ?_
      exact WA.eqK (hx4 _) (J8 s1.2.2 trivial)
    · refine r_iload_n C dX4_pickOffers_12 rfl ?_
      refine r_bipush C (8 : Int32) dX4_pickOffers_13 (by decide) ?_
      refine WA.bif ?_
      refine r_icmp_ge C 52 dX4_pickOffers_15 (by decide) ?_ ?_
      · refine WA.wk (lv' := [none, none, none, none]) [false, false, false, false] rfl ?_
        exact WA.eqK (hx4 _) (J8 s1.2.2 trivial)
      · refine r_aload_n C dX4_pickOffers_18 rfl ?_
        refine r_iload_n C dX4_pickOffers_19 rfl ?_
        refine r_iload_n C dX4_pickOffers_20 rfl ?_
        refine WA.asc ?_
        refine r_callV C (st := []) (As := [.int s1.2.1, .int s1.1]) (d := 0) (j := 6) dX4_pickOffers_21 ml_X4_121 vw_X4_leastPick ⟨_, _, _, _, rfl, rfl⟩ (dm0 (by decide)) (fun r9 e => c_p_Offering_leastPick Θ.1.2.1 (cW Θ) (cAd Θ) (cN Θ) s1.2.2 s1.2.1 s1.1 r9 e) rfl rfl (Nat.le_of_ble_eq_true rfl) ⟨rfl, rfl, by decide, by decide⟩ (fun r9 h10 => ?_)
        refine r_istore_n C [some (.ref (cF Θ 6)), some (.int s1.1), some (.int s1.2.1), some (.int r9)] dX4_pickOffers_24 rfl (by decide) rfl ?_
        refine r_aload_n C dX4_pickOffers_25 rfl ?_
        refine r_getF0 C dX4_pickOffers_26 fg_X4_30 (by decide) ?_
        refine r_iload_n C dX4_pickOffers_29 rfl ?_
        refine r_aload_n C dX4_pickOffers_30 rfl ?_
        refine r_iload_n C dX4_pickOffers_31 rfl ?_
        refine WA.asc ?_
        refine r_callV C (st := [.int s1.2.1, .ref (cF Θ 32)]) (As := [.int r9]) (d := 0) (j := 6) dX4_pickOffers_32 ml_X4_80 vw_X4_vacantAt ⟨_, _, _, _, rfl, rfl⟩ (dm0 (by decide)) (fun r11 e => c_p_Offering_vacantAt Θ.1.2.1 (cW Θ) (cAd Θ) (cN Θ) s1.2.2 r9 r11 e) rfl rfl (Nat.le_of_ble_eq_true rfl) ⟨rfl, rfl, by decide, by decide⟩ (fun r11 h12 => ?_)
        refine WA.asc ?_
        refine r_aast C (x := r11) dX4_pickOffers_35 ag_LC_32 rfl rfl (fun _ => rfl) (by decide) h12 (fun i13 => ?_)
        refine WA.genB (fun σ14 => ?_)
        refine r_iload_n C dX4_pickOffers_36 rfl ?_
        refine WA.asc ?_
        refine WA.join (α := Int32) 46 (fun t15 => [some (.ref (cF Θ 6)), some (.int t15), some (.int s1.2.1), none]) (fun t15 => []) (fun t15 => σ14) (fun t15 => True) (fun t15 h16 => ?_) (fun J17 => ?_)
        · refine r_iinc C (1 : Int32) [some (.ref (cF Θ 6)), some (.int t15), some (.int (s1.2.1 + (1 : Int32))), none] dX4_pickOffers_46 (by decide) rfl rfl (by decide) rfl ?_
          refine r_goto C 4 dX4_pickOffers_49 (by decide) ?_
          refine WA.wk (lv' := [some (.ref (cF Θ 6)), some (.int t15), some (.int (s1.2.1 + (1 : Int32))), none]) [true, true, true, false] rfl ?_
          exact ih3 (t15, s1.2.1 + (1 : Int32), σ14) trivial
        · refine WA.bif ?_
          refine r_if_lt C 46 dX4_pickOffers_37 (by decide) ?_ ?_
          · refine WA.wk (lv' := [some (.ref (cF Θ 6)), some (.int s1.1), some (.int s1.2.1), none]) [true, true, true, false] rfl ?_
            exact J17 s1.1 trivial
          · refine r_iload_n C dX4_pickOffers_40 rfl ?_
            refine r_iconst C (1 : Int32) dX4_pickOffers_41 (by decide) ?_
            refine r_iload_n C dX4_pickOffers_42 rfl ?_
            refine r_ishl C dX4_pickOffers_43 ?_
            refine r_ior C dX4_pickOffers_44 ?_
            refine r_istore_n C [some (.ref (cF Θ 6)), some (.int (s1.1 ||| ((1 : Int32) <<< (r9 &&& 31)))), some (.int s1.2.1), some (.int r9)] dX4_pickOffers_45 rfl (by decide) rfl ?_
            refine WA.wk (lv' := [some (.ref (cF Θ 6)), some (.int (s1.1 ||| ((1 : Int32) <<< (r9 &&& 31)))), some (.int s1.2.1), none]) [true, true, true, false] rfl ?_
            exact J17 (s1.1 ||| ((1 : Int32) <<< (r9 &&& 31))) trivial
theorem c_p_Offering_pickOffers (l : Launch) (ω : Wd) (ad : Nat → Nat → Nat) (N : Nat → Nat) (σ : St)  : ∀ r : St, p_Offering_pickOffers σ = some r → Ct l yX4_pickOffers cX4_pickOffers 4 none ({ frames := 3, cells := 0, slots := 0, locals := 71 } : Room) LC ω ad N [.ref (ω.2.1 6)] σ none r (True) :=
  ct_of (o := fun r : St => none) (s' := fun r => r) (P := fun r => True) [some (.ref (ω.2.1 6)), none, none, none] (by decide) rfl (Nat.le_of_ble_eq_true rfl) (fun Γ C _ _ => w_p_Offering_pickOffers (Γ, ω, 4, ad, N, 0, 0) σ  C)
theorem vw_X4_fillRow : VW yX4_fillRow cX4_fillRow 3 none 1 := ⟨⟨(in_wt 86 (by decide +kernel) (by decide +kernel)), (in_wt 1023 (by decide +kernel) (by decide +kernel)), by decide +kernel⟩, (in_wt 1022 (by decide +kernel) (by decide +kernel)), (in_wt 24 (by decide +kernel) (by decide +kernel))⟩
theorem vw_X4_gatherVacant : VW yX4_gatherVacant cX4_gatherVacant 3 none 0 := ⟨⟨(in_wt 86 (by decide +kernel) (by decide +kernel)), (in_wt 1000 (by decide +kernel) (by decide +kernel)), by decide +kernel⟩, (in_wt 999 (by decide +kernel) (by decide +kernel)), (in_wt 20 (by decide +kernel) (by decide +kernel))⟩
theorem vw_X4_gatherWorth : VW yX4_gatherWorth cX4_gatherWorth 4 none 1 := ⟨⟨(in_wt 86 (by decide +kernel) (by decide +kernel)), (in_wt 1006 (by decide +kernel) (by decide +kernel)), by decide +kernel⟩, (in_wt 1005 (by decide +kernel) (by decide +kernel)), (in_wt 21 (by decide +kernel) (by decide +kernel))⟩
theorem vw_X4_pickOffers : VW yX4_pickOffers cX4_pickOffers 4 none 0 := ⟨⟨(in_wt 86 (by decide +kernel) (by decide +kernel)), (in_wt 1041 (by decide +kernel) (by decide +kernel)), by decide +kernel⟩, (in_wt 1040 (by decide +kernel) (by decide +kernel)), (in_wt 28 (by decide +kernel) (by decide +kernel))⟩
theorem ml_X4_48 : Cond.methodLink RX4 48 yX4_gatherVacant ∈ wt := in_wt 997 (by decide +kernel) (by decide +kernel)
theorem ml_X4_51 : Cond.methodLink RX4 51 yX4_gatherWorth ∈ wt := in_wt 1003 (by decide +kernel) (by decide +kernel)
theorem ml_X4_55 : Cond.methodLink RX4 55 yJ7_fill_53178 ∈ wt := in_wt 1019 (by decide +kernel) (by decide +kernel)
theorem ml_X4_61 : Cond.methodLink RX4 61 yX4_fillRow ∈ wt := in_wt 1020 (by decide +kernel) (by decide +kernel)
theorem ml_X4_64 : Cond.methodLink RX4 64 yX4_pickOffers ∈ wt := in_wt 1038 (by decide +kernel) (by decide +kernel)
/-- PostsEnd$Offering.void settle() -/
def p_Offering_settle (σ : St) : Option St := (Option.bind (p_Offering_gatherVacant σ) fun r1 => (Option.bind (itr0 (S := Int32 × St) (E := St) (fun s3 => (if s3.1 < s3.2.1 0 6 7 then (Option.bind (p_Offering_gatherWorth s3.2 s3.1) fun r25 => some (.inl (s3.1 + (1 : Int32), r25))) else some (.inr s3.2))) FU ((0 : Int32), r1)) fun e8 => (Option.bind (j_Arrays_fill e8 31 2304 (0 : Int32)) fun r11 => (Option.bind (itr0 (S := Int32 × St) (E := St) (fun s13 => (if s13.1 < 0 then some (.inr s13.2) else (Option.bind (p_Offering_fillRow s13.2 s13.1) fun r23 => some (.inl (s13.1 + (-1 : Int32), r23))))) FU ((r11.1 0 6 7) - (1 : Int32), r11)) fun e18 => (Option.bind (p_Offering_pickOffers e18) fun r21 => some r21)))))
set_option maxRecDepth 20000 in
set_option maxHeartbeats 4000000 in
theorem w_p_Offering_settle (Θ : TT) (σ : St)  (C : CX Θ cX4_settle RX4 none ({ frames := 5, cells := 0, slots := 0, locals := 112 } : Room) 2) : WA LC Θ (fun r : St => Qm LC Θ none r (True)) 0 [some (.ref (cF Θ 6)), none] [] σ (p_Offering_settle σ) := by
  unfold p_Offering_settle
  refine r_aload_n C dX4_settle_0 rfl ?_
  refine r_callV C (st := []) (As := []) (d := 0) (j := 6) dX4_settle_1 ml_X4_48 vw_X4_gatherVacant ⟨_, _, _, _, rfl, rfl⟩ (dm0 (by decide)) (fun r1 e => c_p_Offering_gatherVacant Θ.1.2.1 (cW Θ) (cAd Θ) (cN Θ) σ r1 e) rfl rfl (Nat.le_of_ble_eq_true rfl) ⟨rfl, rfl, by decide, by decide⟩ (fun r1 h2 => ?_)
  refine r_iconst C (0 : Int32) dX4_settle_4 (by decide) ?_
  refine r_istore_n C [some (.ref (cF Θ 6)), some (.int (0 : Int32))] dX4_settle_5 rfl (by decide) rfl ?_
  refine WA.join (α := St) 25 (fun e8 => [some (.ref (cF Θ 6)), none]) (fun e8 => []) (fun e8 => e8) (fun e8 => True) (fun e8 h9 => ?_) (fun J10 => ?_)
  · refine r_aload_n C dX4_settle_25 rfl ?_
    refine r_getF0 C dX4_settle_26 fg_X4_27 (by decide) ?_
    refine r_iconst C (0 : Int32) dX4_settle_29 (by decide) ?_
    refine r_callS C (st := []) (As := [.ref (cF Θ 31), .int (0 : Int32)]) dX4_settle_30 ml_X4_55 sw_J7_fill_53178 (fun r11 e => c_j_Arrays_fill Θ.1.2.1 (cW Θ) (cAd Θ) (cN Θ) e8 31 2304 (0 : Int32) ag_LC_31 r11 e) rfl rfl (Nat.le_of_ble_eq_true rfl) ⟨rfl, rfl, by decide, by decide⟩ (fun r11 h12 => ?_)
    refine r_aload_n C dX4_settle_33 rfl ?_
    refine r_getI0 C dX4_settle_34 fg_X4_37 (by decide) ?_
    refine r_iconst C (1 : Int32) dX4_settle_37 (by decide) ?_
    refine r_isub C dX4_settle_38 ?_
    refine r_istore_n C [some (.ref (cF Θ 6)), some (.int ((r11.1 0 6 7) - (1 : Int32)))] dX4_settle_39 rfl (by decide) rfl ?_
    refine WA.join (α := St) 55 (fun e18 => [some (.ref (cF Θ 6)), none]) (fun e18 => []) (fun e18 => e18) (fun e18 => True) (fun e18 h19 => ?_) (fun J20 => ?_)
    · refine r_aload_n C dX4_settle_55 rfl ?_
      refine r_callV C (st := []) (As := []) (d := 0) (j := 6) dX4_settle_56 ml_X4_64 vw_X4_pickOffers ⟨_, _, _, _, rfl, rfl⟩ (dm0 (by decide)) (fun r21 e => c_p_Offering_pickOffers Θ.1.2.1 (cW Θ) (cAd Θ) (cN Θ) e18 r21 e) rfl rfl (Nat.le_of_ble_eq_true rfl) ⟨rfl, rfl, by decide, by decide⟩ (fun r21 h22 => ?_)
      exact r_vret C dX4_settle_59 rfl rfl trivial
    · refine WA.wk (lv' := [some (.ref (cF Θ 6)), some (.int ((r11.1 0 6 7) - (1 : Int32)))]) [true, true] rfl ?_
      refine WA.itr (S := Int32 × St) 40 (fun s13 => [some (.ref (cF Θ 6)), some (.int s13.1)]) (fun s13 => []) (fun s13 => s13.2) (fun s13 => True) (fun s13 k17 h14 ih15 hx16 => ?_) FU ((r11.1 0 6 7) - (1 : Int32), r11) trivial
      refine r_iload_n C dX4_settle_40 rfl ?_
      refine WA.bif ?_
      refine r_if_lt C 55 dX4_settle_41 (by decide) ?_ ?_
      · refine WA.wk (lv' := [some (.ref (cF Θ 6)), none]) [true, false] rfl ?_
        exact WA.eqK (hx16 _) (J20 s13.2 trivial)
      · refine r_aload_n C dX4_settle_44 rfl ?_
        refine r_iload_n C dX4_settle_45 rfl ?_
        refine WA.asc ?_
        refine r_callV C (st := []) (As := [.int s13.1]) (d := 0) (j := 6) dX4_settle_46 ml_X4_61 vw_X4_fillRow ⟨_, _, _, _, rfl, rfl⟩ (dm0 (by decide)) (fun r23 e => c_p_Offering_fillRow Θ.1.2.1 (cW Θ) (cAd Θ) (cN Θ) s13.2 s13.1 r23 e) rfl rfl (Nat.le_of_ble_eq_true rfl) ⟨rfl, rfl, by decide, by decide⟩ (fun r23 h24 => ?_)
        refine r_iinc C (-1 : Int32) [some (.ref (cF Θ 6)), some (.int (s13.1 + (-1 : Int32)))] dX4_settle_49 (by decide) rfl rfl (by decide) rfl ?_
        refine r_goto C 40 dX4_settle_52 (by decide) ?_
        refine WA.wk (lv' := [some (.ref (cF Θ 6)), some (.int (s13.1 + (-1 : Int32)))]) [true, true] rfl ?_
        exact ih15 (s13.1 + (-1 : Int32), r23) trivial
  · refine WA.wk (lv' := [some (.ref (cF Θ 6)), some (.int (0 : Int32))]) [true, true] rfl ?_
    refine WA.itr (S := Int32 × St) 6 (fun s3 => [some (.ref (cF Θ 6)), some (.int s3.1)]) (fun s3 => []) (fun s3 => s3.2) (fun s3 => True) (fun s3 k7 h4 ih5 hx6 => ?_) FU ((0 : Int32), r1) trivial
    refine r_iload_n C dX4_settle_6 rfl ?_
    refine r_aload_n C dX4_settle_7 rfl ?_
    refine r_getI0 C dX4_settle_8 fg_X4_37 (by decide) ?_
    refine WA.bif ?_
    refine r_icmp_ge C 25 dX4_settle_11 (by decide) ?_ ?_
    · refine WA.wk (lv' := [some (.ref (cF Θ 6)), none]) [true, false] rfl ?_
      exact WA.eqK (hx6 _) (J10 s3.2 trivial)
    · refine r_aload_n C dX4_settle_14 rfl ?_
      refine r_iload_n C dX4_settle_15 rfl ?_
      refine WA.asc ?_
      refine r_callV C (st := []) (As := [.int s3.1]) (d := 0) (j := 6) dX4_settle_16 ml_X4_51 vw_X4_gatherWorth ⟨_, _, _, _, rfl, rfl⟩ (dm0 (by decide)) (fun r25 e => c_p_Offering_gatherWorth Θ.1.2.1 (cW Θ) (cAd Θ) (cN Θ) s3.2 s3.1 r25 e) rfl rfl (Nat.le_of_ble_eq_true rfl) ⟨rfl, rfl, by decide, by decide⟩ (fun r25 h26 => ?_)
      refine r_iinc C (1 : Int32) [some (.ref (cF Θ 6)), some (.int (s3.1 + (1 : Int32)))] dX4_settle_19 (by decide) rfl rfl (by decide) rfl ?_
      refine r_goto C 6 dX4_settle_22 (by decide) ?_
      refine WA.wk (lv' := [some (.ref (cF Θ 6)), some (.int (s3.1 + (1 : Int32)))]) [true, true] rfl ?_
      exact ih5 (s3.1 + (1 : Int32), r25) trivial
theorem c_p_Offering_settle (l : Launch) (ω : Wd) (ad : Nat → Nat → Nat) (N : Nat → Nat) (σ : St)  : ∀ r : St, p_Offering_settle σ = some r → Ct l yX4_settle cX4_settle 2 none ({ frames := 5, cells := 0, slots := 0, locals := 112 } : Room) LC ω ad N [.ref (ω.2.1 6)] σ none r (True) :=
  ct_of (o := fun r : St => none) (s' := fun r => r) (P := fun r => True) [some (.ref (ω.2.1 6)), none] (by decide) rfl (Nat.le_of_ble_eq_true rfl) (fun Γ C _ _ => w_p_Offering_settle (Γ, ω, 2, ad, N, 0, 0) σ  C)
theorem fg_X4_124 (j : Nat) : FG LC RX4 124 1 j 0 (0, 0) := ⟨_, _, _, _, _, rfl, rfl, rfl, by decide, uw_X7, (in_wt 442 (by decide +kernel) (by decide +kernel))⟩
/-- PostsEnd$Offering.int postFor(int) -/
def p_Offering_postFor (σ : St) (a1 : Int32) : Option Int32 := (Option.bind (α := (Option Nat)) ((if a1 < 0 then some none else (if a1 < σ.1 0 6 7 then (if a1 < (8 : Int32) then (Option.bind (ix 8 a1) fun i8 => lt1 (σ.2 0 32 i8) fun x6 => some x6) else some none) else some none))) fun t1 => (Option.elim t1 (some (-9 : Int32)) fun q4 => some (σ.1 1 q4 0)))
set_option maxRecDepth 20000 in
set_option maxHeartbeats 4000000 in
theorem w_p_Offering_postFor (Θ : TT) (σ : St) (a1 : Int32) (C : CX Θ cX4_postFor RX4 (some .int) ({ frames := 0, cells := 0, slots := 0, locals := 0 } : Room) 3) : WA LC Θ (fun r : Int32 => Qm LC Θ (some (.int r)) σ (True)) 0 [some (.ref (cF Θ 6)), some (.int a1), none] [] σ (p_Offering_postFor σ a1) := by
  unfold p_Offering_postFor
  refine r_iload_n C dX4_postFor_0 rfl ?_
  refine WA.join (α := (Option Nat)) 28 (fun t1 => [none, none, none]) (fun t1 => [va_rf (Option.map (cAd Θ 1) t1)]) (fun t1 => σ) (fun t1 => (∀ q, t1 = some q → q < cN Θ 1)) (fun t1 h2 => ?_) (fun J3 => ?_)
  · refine r_astore_n C (x := Option.map (cAd Θ 1) t1) [none, none, some (va_rf (Option.map (cAd Θ 1) t1))] dX4_postFor_28 rfl (by decide) rfl ?_
    refine r_aload_nQ C (x := Option.map (cAd Θ 1) t1) dX4_postFor_29 rfl ?_
    rcases t1 with _ | q4
    · refine r_ifnonnullN C dX4_postFor_30 ?_
      refine r_bipush C (-9 : Int32) dX4_postFor_33 (by decide) ?_
      refine r_goto C 42 dX4_postFor_35 (by decide) ?_
      exact r_iret C dX4_postFor_42 rfl rfl trivial
    · have h5 := h2 q4 rfl
      refine r_ifnonnullS C 38 dX4_postFor_30 (by decide) ?_
      refine r_aload_n C dX4_postFor_38 rfl ?_
      refine r_getI C dX4_postFor_39 (fg_X4_124 _) (by decide) h5 ?_
      exact r_iret C dX4_postFor_42 rfl rfl trivial
  · refine WA.bif ?_
    refine r_if_lt C 27 dX4_postFor_1 (by decide) ?_ ?_
    · refine r_null C dX4_postFor_27 ?_
      refine WA.wk (lv' := [none, none, none]) [false, false, false] rfl ?_
      exact J3 none (fun q e => nomatch e)
    · refine r_iload_n C dX4_postFor_4 rfl ?_
      refine r_aload_n C dX4_postFor_5 rfl ?_
      refine r_getI0 C dX4_postFor_6 fg_X4_37 (by decide) ?_
      refine WA.bif ?_
      refine r_icmp_ge C 27 dX4_postFor_9 (by decide) ?_ ?_
      · refine r_null C dX4_postFor_27 ?_
        refine WA.wk (lv' := [none, none, none]) [false, false, false] rfl ?_
        exact J3 none (fun q e => nomatch e)
      · refine r_iload_n C dX4_postFor_12 rfl ?_
        refine r_bipush C (8 : Int32) dX4_postFor_13 (by decide) ?_
        refine WA.bif ?_
        refine r_icmp_ge C 27 dX4_postFor_15 (by decide) ?_ ?_
        · refine r_null C dX4_postFor_27 ?_
          refine WA.wk (lv' := [none, none, none]) [false, false, false] rfl ?_
          exact J3 none (fun q e => nomatch e)
        · refine r_aload_n C dX4_postFor_18 rfl ?_
          refine r_getF0 C dX4_postFor_19 fg_X4_30 (by decide) ?_
          refine r_iload_n C dX4_postFor_22 rfl ?_
          refine WA.asl ?_
          refine r_aald C dX4_postFor_23 ag_LC_32 rfl (fun x6 h7 => ?_)
          refine r_goto C 28 dX4_postFor_24 (by decide) ?_
          refine WA.wk (lv' := [none, none, none]) [false, false, false] rfl ?_
          exact J3 x6 h7
theorem c_p_Offering_postFor (l : Launch) (ω : Wd) (ad : Nat → Nat → Nat) (N : Nat → Nat) (σ : St) (a1 : Int32) : ∀ r : Int32, p_Offering_postFor σ a1 = some r → Ct l yX4_postFor cX4_postFor 3 (some .int) ({ frames := 0, cells := 0, slots := 0, locals := 0 } : Room) LC ω ad N [.ref (ω.2.1 6), .int a1] σ (some (.int r)) σ (True) :=
  ct_of (o := fun r : Int32 => (some (.int r))) (s' := fun r => σ) (P := fun r => True) [some (.ref (ω.2.1 6)), some (.int a1), none] (by decide) rfl (Nat.le_of_ble_eq_true rfl) (fun Γ C _ _ => w_p_Offering_postFor (Γ, ω, 3, ad, N, 0, 0) σ a1 C)
/-- PostsEnd$Offering.int total(int) -/
def p_Offering_total (σ : St) (a1 : Int32) : Option Int32 := (Option.bind (p_Offering_bestFrom σ (0 : Int32) (0 : Int32)) fun r1 => (if a1 = (0 : Int32) then some (r1 / (1000000 : Int32)) else (if a1 = (1 : Int32) then some ((r1 - r1 / (1000000 : Int32) * (1000000 : Int32)) / (1000 : Int32)) else some (r1 - r1 / (1000 : Int32) * (1000 : Int32)))))
set_option maxRecDepth 20000 in
set_option maxHeartbeats 4000000 in
theorem w_p_Offering_total (Θ : TT) (σ : St) (a1 : Int32) (C : CX Θ cX4_total RX4 (some .int) ({ frames := 1, cells := 0, slots := 0, locals := 23 } : Room) 3) : WA LC Θ (fun r : Int32 => Qm LC Θ (some (.int r)) σ (True)) 0 [some (.ref (cF Θ 6)), some (.int a1), none] [] σ (p_Offering_total σ a1) := by
  unfold p_Offering_total
  refine r_aload_n C dX4_total_0 rfl ?_
  refine r_iconst C (0 : Int32) dX4_total_1 (by decide) ?_
  refine r_iconst C (0 : Int32) dX4_total_2 (by decide) ?_
  refine r_callV C (st := []) (As := [.int (0 : Int32), .int (0 : Int32)]) (d := 0) (j := 6) dX4_total_3 ml_X4_98 vw_X4_bestFrom ⟨_, _, _, _, rfl, rfl⟩ (dm0 (by decide)) (fun r1 e => c_p_Offering_bestFrom Θ.1.2.1 (cW Θ) (cAd Θ) (cN Θ) σ (0 : Int32) (0 : Int32) r1 e) rfl rfl (Nat.le_of_ble_eq_true rfl) ⟨rfl, rfl, by decide, by decide⟩ (fun r1 h2 => ?_)
  refine r_istore_n C [some (.ref (cF Θ 6)), some (.int a1), some (.int r1)] dX4_total_6 rfl (by decide) rfl ?_
  refine r_iload_n C dX4_total_7 rfl ?_
  refine WA.cas (v := (0 : Int32)) ?_ (fun h3 => ?_)
  · refine r_lookup C 36 dX4_total_8 (by decide) rfl (by decide) ?_
    refine r_iload_n C dX4_total_36 rfl ?_
    refine r_ldc C dX4_total_37 kc_X4_97 ?_
    refine r_idivc C dX4_total_39 (by decide) ?_
    exact r_iret C dX4_total_40 rfl rfl trivial
  refine WA.cas (v := (1 : Int32)) ?_ (fun h4 => ?_)
  · refine r_lookup C 41 dX4_total_8 (by decide) rfl (by decide) ?_
    refine r_iload_n C dX4_total_41 rfl ?_
    refine r_ldc C dX4_total_42 kc_X4_97 ?_
    refine r_iremc C dX4_total_44 (by decide) ?_
    refine r_sipush C (1000 : Int32) dX4_total_45 (by decide) ?_
    refine r_idivc C dX4_total_48 (by decide) ?_
    exact r_iret C dX4_total_49 rfl rfl trivial
  have h3 := tq_ne h3 (z := 0) (by decide)
  have h4 := tq_ne h4 (z := 1) (by decide)
  refine r_lookup C 50 dX4_total_8 (by decide) (off := 42) (by simp [Op.lookupswitch.offset, Ne.symm h3, Ne.symm h4]) (by decide) ?_
  refine r_iload_n C dX4_total_50 rfl ?_
  refine r_sipush C (1000 : Int32) dX4_total_51 (by decide) ?_
  refine r_iremc C dX4_total_54 (by decide) ?_
  exact r_iret C dX4_total_55 rfl rfl trivial
theorem c_p_Offering_total (l : Launch) (ω : Wd) (ad : Nat → Nat → Nat) (N : Nat → Nat) (σ : St) (a1 : Int32) : ∀ r : Int32, p_Offering_total σ a1 = some r → Ct l yX4_total cX4_total 3 (some .int) ({ frames := 1, cells := 0, slots := 0, locals := 23 } : Room) LC ω ad N [.ref (ω.2.1 6), .int a1] σ (some (.int r)) σ (True) :=
  ct_of (o := fun r : Int32 => (some (.int r))) (s' := fun r => σ) (P := fun r => True) [some (.ref (ω.2.1 6)), some (.int a1), none] (by decide) rfl (Nat.le_of_ble_eq_true rfl) (fun Γ C _ _ => w_p_Offering_total (Γ, ω, 3, ad, N, 0, 0) σ a1 C)
theorem fp_X5_15 (j : Nat) : FP LC RX5 15 2 j 7 (0, 0) .int := ⟨_, _, _, _, _, tyX5, rfl, rfl, rfl, by decide, uw_X5, (in_wt 547 (by decide +kernel) (by decide +kernel)), tyX5_ok, nmX5, rfl, by decide +kernel⟩
theorem fp_X5_18 (j : Nat) : FP LC RX5 18 2 j 8 (0, 0) .int := ⟨_, _, _, _, _, tyX5, rfl, rfl, rfl, by decide, uw_X5, (in_wt 550 (by decide +kernel) (by decide +kernel)), tyX5_ok, nmX5, rfl, by decide +kernel⟩
theorem fp_X5_9 (j : Nat) : FP LC RX5 9 2 j 6 (0, 0) .int := ⟨_, _, _, _, _, tyX5, rfl, rfl, rfl, by decide, uw_X5, (in_wt 544 (by decide +kernel) (by decide +kernel)), tyX5_ok, nmX5, rfl, by decide +kernel⟩
theorem fpi_X5_21 (j : Nat) : FPi LC RX5 21 2 j 0 (0, 0) .int := ⟨_, _, _, _, _, tyX5, rfl, rfl, rfl, by decide, uw_X5, (in_wt 525 (by decide +kernel) (by decide +kernel)), tyX5_ok, nmX5, rfl, rfl, by decide +kernel⟩
theorem fpi_X5_24 (j : Nat) : FPi LC RX5 24 2 j 1 (0, 0) .int := ⟨_, _, _, _, _, tyX5, rfl, rfl, rfl, by decide, uw_X5, (in_wt 529 (by decide +kernel) (by decide +kernel)), tyX5_ok, nmX5, rfl, rfl, by decide +kernel⟩
theorem fpi_X5_27 (j : Nat) : FPi LC RX5 27 2 j 2 (0, 0) .int := ⟨_, _, _, _, _, tyX5, rfl, rfl, rfl, by decide, uw_X5, (in_wt 532 (by decide +kernel) (by decide +kernel)), tyX5_ok, nmX5, rfl, rfl, by decide +kernel⟩
theorem fpi_X5_30 (j : Nat) : FPi LC RX5 30 2 j 3 (0, 0) .int := ⟨_, _, _, _, _, tyX5, rfl, rfl, rfl, by decide, uw_X5, (in_wt 535 (by decide +kernel) (by decide +kernel)), tyX5_ok, nmX5, rfl, rfl, by decide +kernel⟩
theorem oi_X5_3 : Cond.methodLink RX5 3 Lib.objectInit ∈ wt ∧ Cond.instanceMethod Lib.objectInit ∈ wt ∧ Cond.code Lib.objectInit ⟨#[0xb1]⟩ 1 none ∈ wt := ⟨(in_wt 524 (by decide +kernel) (by decide +kernel)), (in_wt 103 (by decide +kernel) (by decide +kernel)), (in_wt 104 (by decide +kernel) (by decide +kernel))⟩
/-- PostsEnd$Person.PostsEnd$Person(int, int, int, int) -/
def p_Person_init (σ : St) (a0 : Nat) (a1 : Int32) (a2 : Int32) (a3 : Int32) (a4 : Int32) : Option St := (lt1 (sx σ 2 a0 6 (-1 : Int32)) fun σ1 => (lt1 (sx σ1 2 a0 7 (-1 : Int32)) fun σ2 => (lt1 (sx σ2 2 a0 8 (-1 : Int32)) fun σ3 => (lt1 (sx σ3 2 a0 0 a1) fun σ4 => (lt1 (sx σ4 2 a0 1 a2) fun σ5 => (lt1 (sx σ5 2 a0 2 a3) fun σ6 => (lt1 (sx σ6 2 a0 3 a4) fun σ7 => some σ7)))))))
set_option maxRecDepth 20000 in
set_option maxHeartbeats 4000000 in
theorem w_p_Person_init (Θ : TT) (σ : St) (a0 : Nat) (a1 : Int32) (a2 : Int32) (a3 : Int32) (a4 : Int32) (b0 : a0 < cN Θ 2) (hnm : Θ.1.2.2.2.2.2.2.2.2.1.name = "<init>") (C : CX Θ cX5_init RX5 none ({ frames := 1, cells := 0, slots := 0, locals := 12 } : Room) 5) : WA LC Θ (fun r : St => Qm LC Θ none r (True)) 0 [some (.ref (cAd Θ 2 a0)), some (.int a1), some (.int a2), some (.int a3), some (.int a4)] [] σ (p_Person_init σ a0 a1 a2 a3 a4) := by
  unfold p_Person_init
  refine r_aload_n C dX5_init_0 rfl ?_
  refine r_objInit C dX5_init_1 oi_X5_3 (by decide) (Nat.le_of_ble_eq_true rfl) ?_
  refine r_aload_n C dX5_init_4 rfl ?_
  refine r_iconst C (-1 : Int32) dX5_init_5 (by decide) ?_
  refine r_putI C dX5_init_6 (fp_X5_9 _) (by decide) b0 ?_
  refine WA.gen (fun σ1 => ?_)
  refine r_aload_n C dX5_init_9 rfl ?_
  refine r_iconst C (-1 : Int32) dX5_init_10 (by decide) ?_
  refine r_putI C dX5_init_11 (fp_X5_15 _) (by decide) b0 ?_
  refine WA.gen (fun σ2 => ?_)
  refine r_aload_n C dX5_init_14 rfl ?_
  refine r_iconst C (-1 : Int32) dX5_init_15 (by decide) ?_
  refine r_putI C dX5_init_16 (fp_X5_18 _) (by decide) b0 ?_
  refine WA.gen (fun σ3 => ?_)
  refine r_aload_n C dX5_init_19 rfl ?_
  refine r_iload_n C dX5_init_20 rfl ?_
  refine r_putFI C hnm dX5_init_21 (fpi_X5_21 _) (by decide) b0 ?_
  refine WA.gen (fun σ4 => ?_)
  refine r_aload_n C dX5_init_24 rfl ?_
  refine r_iload_n C dX5_init_25 rfl ?_
  refine r_putFI C hnm dX5_init_26 (fpi_X5_24 _) (by decide) b0 ?_
  refine WA.gen (fun σ5 => ?_)
  refine r_aload_n C dX5_init_29 rfl ?_
  refine r_iload_n C dX5_init_30 rfl ?_
  refine r_putFI C hnm dX5_init_31 (fpi_X5_27 _) (by decide) b0 ?_
  refine WA.gen (fun σ6 => ?_)
  refine r_aload_n C dX5_init_34 rfl ?_
  refine r_iload C dX5_init_35 rfl ?_
  refine r_putFI C hnm dX5_init_37 (fpi_X5_30 _) (by decide) b0 ?_
  refine WA.gen (fun σ7 => ?_)
  exact r_vret C dX5_init_40 rfl rfl trivial
theorem c_p_Person_init (l : Launch) (ω : Wd) (ad : Nat → Nat → Nat) (N : Nat → Nat) (σ : St) (a0 : Nat) (a1 : Int32) (a2 : Int32) (a3 : Int32) (a4 : Int32) (b0 : a0 < N 2) : ∀ r : St, p_Person_init σ a0 a1 a2 a3 a4 = some r → Ct l yX5_init cX5_init 5 none ({ frames := 1, cells := 0, slots := 0, locals := 12 } : Room) LC ω ad N [.ref (ad 2 a0), .int a1, .int a2, .int a3, .int a4] σ none r (True) :=
  ct_of (o := fun r : St => none) (s' := fun r => r) (P := fun r => True) [some (.ref (ad 2 a0)), some (.int a1), some (.int a2), some (.int a3), some (.int a4)] (by decide) rfl (Nat.le_of_ble_eq_true rfl) (fun Γ C _ hn => w_p_Person_init (Γ, ω, 5, ad, N, 0, 0) σ a0 a1 a2 a3 a4 b0 hn C)
theorem fg_X5_33 (j : Nat) : FG LC RX5 33 2 j 4 (2, 0) := ⟨_, _, _, _, _, rfl, rfl, rfl, by decide, uw_X5, (in_wt 537 (by decide +kernel) (by decide +kernel))⟩
theorem fp_X5_33 (j : Nat) : FP LC RX5 33 2 j 4 (2, 0) (.object "PostsEnd$Post") := ⟨_, _, _, _, _, tyX5, rfl, rfl, rfl, by decide, uw_X5, (in_wt 537 (by decide +kernel) (by decide +kernel)), tyX5_ok, nmX5, rfl, by decide +kernel⟩
theorem fp_X5_37 (j : Nat) : FP LC RX5 37 1 j 7 (3, 0) (.object "PostsEnd$Person") := ⟨_, _, _, _, _, tyX7, rfl, rfl, rfl, by decide, uw_X7, (in_wt 460 (by decide +kernel) (by decide +kernel)), tyX7_ok, nmX7, rfl, by decide +kernel⟩
theorem fp_X5_43 (j : Nat) : FP LC RX5 43 2 j 5 (2, 0) (.object "PostsEnd$Post") := ⟨_, _, _, _, _, tyX5, rfl, rfl, rfl, by decide, uw_X5, (in_wt 542 (by decide +kernel) (by decide +kernel)), tyX5_ok, nmX5, rfl, by decide +kernel⟩
/-- PostsEnd$Person.void hold(PostsEnd$Post) -/
def p_Person_hold (σ : St) (a0 : Nat) (a1 : Option Nat) : Option St := (lt1 (σ.2 2 a0 4) fun x1 => (Option.bind (α := St) ((Option.elim x1 (some σ) fun q11 => (lt1 (sy σ 1 q11 7 none) fun σ13 => some σ13))) fun t3 => (lt1 (sy t3 2 a0 4 a1) fun σ6 => (Option.elim a1 (some σ6) fun q7 => (lt1 (sy σ6 1 q7 7 (some a0)) fun σ9 => (lt1 (sy σ9 2 a0 5 (some q7)) fun σ10 => some σ10))))))
set_option maxRecDepth 20000 in
set_option maxHeartbeats 4000000 in
theorem w_p_Person_hold (Θ : TT) (σ : St) (a0 : Nat) (a1 : Option Nat) (b0 : a0 < cN Θ 2) (b1 : ∀ q, a1 = some q → q < cN Θ 1) (C : CX Θ cX5_hold RX5 none ({ frames := 0, cells := 0, slots := 0, locals := 0 } : Room) 3) : WA LC Θ (fun r : St => Qm LC Θ none r (True)) 0 [some (.ref (cAd Θ 2 a0)), some (va_rf (Option.map (cAd Θ 1) a1)), none] [] σ (p_Person_hold σ a0 a1) := by
  unfold p_Person_hold
  refine r_aload_n C dX5_hold_0 rfl ?_
  refine r_getQ C dX5_hold_1 (fg_X5_33 _) (by decide) b0 (fun x1 h2 => ?_)
  refine r_astore_n C (x := Option.map (cAd Θ 1) x1) [some (.ref (cAd Θ 2 a0)), some (va_rf (Option.map (cAd Θ 1) a1)), some (va_rf (Option.map (cAd Θ 1) x1))] dX5_hold_4 rfl (by decide) (lvok_q (x := Option.map (cAd Θ 1) a1) rfl) ?_
  refine r_aload_nQ C (x := Option.map (cAd Θ 1) x1) dX5_hold_5 rfl ?_
  refine WA.join (α := St) 14 (fun t3 => [some (.ref (cAd Θ 2 a0)), some (va_rf (Option.map (cAd Θ 1) a1)), none]) (fun t3 => []) (fun t3 => t3) (fun t3 => True) (fun t3 h4 => ?_) (fun J5 => ?_)
  · refine r_aload_n C dX5_hold_14 rfl ?_
    refine r_aload_nQ C (x := Option.map (cAd Θ 1) a1) dX5_hold_15 rfl ?_
    refine r_putQ C (x := a1) dX5_hold_16 (fp_X5_33 _) (by decide) b0 b1 ?_
    refine WA.gen (fun σ6 => ?_)
    refine r_aload_nQ C (x := Option.map (cAd Θ 1) a1) dX5_hold_19 rfl ?_
    rcases a1 with _ | q7
    · refine r_ifnullN C 33 dX5_hold_20 (by decide) ?_
      exact r_vret C dX5_hold_33 rfl rfl trivial
    · have h8 := b1 q7 rfl
      refine r_ifnullS C dX5_hold_20 ?_
      refine r_aload_n C dX5_hold_23 rfl ?_
      refine r_aload_n C dX5_hold_24 rfl ?_
      refine r_putQ C (x := (some a0)) dX5_hold_25 (fp_X5_37 _) (by decide) h8 (fun q e => (Option.some.inj e) ▸ b0) ?_
      refine WA.gen (fun σ9 => ?_)
      refine r_aload_n C dX5_hold_28 rfl ?_
      refine r_aload_n C dX5_hold_29 rfl ?_
      refine r_putQ C (x := (some q7)) dX5_hold_30 (fp_X5_43 _) (by decide) b0 (fun q e => (Option.some.inj e) ▸ h8) ?_
      refine WA.gen (fun σ10 => ?_)
      exact r_vret C dX5_hold_33 rfl rfl trivial
  · refine WA.bel ?_
    rcases x1 with _ | q11
    · refine r_ifnullN C 14 dX5_hold_6 (by decide) ?_
      refine WA.wk (lv' := [some (.ref (cAd Θ 2 a0)), some (va_rf (Option.map (cAd Θ 1) a1)), none]) [true, true, false] rfl ?_
      exact J5 σ trivial
    · have h12 := h2 q11 rfl
      refine r_ifnullS C dX5_hold_6 ?_
      refine r_aload_n C dX5_hold_9 rfl ?_
      refine r_null C dX5_hold_10 ?_
      refine r_putQ C (x := none) dX5_hold_11 (fp_X5_37 _) (by decide) h12 (fun q e => nomatch e) ?_
      refine WA.genB (fun σ13 => ?_)
      refine WA.wk (lv' := [some (.ref (cAd Θ 2 a0)), some (va_rf (Option.map (cAd Θ 1) a1)), none]) [true, true, false] rfl ?_
      exact J5 σ13 trivial
theorem c_p_Person_hold (l : Launch) (ω : Wd) (ad : Nat → Nat → Nat) (N : Nat → Nat) (σ : St) (a0 : Nat) (a1 : Option Nat) (b0 : a0 < N 2) (b1 : ∀ q, a1 = some q → q < N 1) : ∀ r : St, p_Person_hold σ a0 a1 = some r → Ct l yX5_hold cX5_hold 3 none ({ frames := 0, cells := 0, slots := 0, locals := 0 } : Room) LC ω ad N [.ref (ad 2 a0), va_rf (Option.map (ad 1) a1)] σ none r (True) :=
  ct_of (o := fun r : St => none) (s' := fun r => r) (P := fun r => True) [some (.ref (ad 2 a0)), some (va_rf (Option.map (ad 1) a1)), none] (by decide) (by simp [pr, lv_args, cat_rf, cat_i, cat_r]) (by simp [lg_sl, cat_rf, cat_i, cat_r]) (fun Γ C _ _ => w_p_Person_hold (Γ, ω, 3, ad, N, 0, 0) σ a0 a1 b0 b1 C)
theorem vw_X3_isOpenBelow : VW yX3_isOpenBelow cX3_isOpenBelow 3 (some .boolean) 2 := ⟨⟨(in_wt 81 (by decide +kernel) (by decide +kernel)), (in_wt 767 (by decide +kernel) (by decide +kernel)), by decide +kernel⟩, (in_wt 765 (by decide +kernel) (by decide +kernel)), (in_wt 766 (by decide +kernel) (by decide +kernel))⟩
theorem ml_X6_62 : Cond.methodLink RX6 62 yX3_isOpenBelow ∈ wt := in_wt 764 (by decide +kernel) (by decide +kernel)
/-- PostsEnd$Pools.private boolean isFree(PostsEnd$Post, int) -/
def p_Pools_isFree (σ : St) (a1 : Nat) (a2 : Int32) : Option Int32 := (Option.bind (p_Pools_joinedAs σ a1) fun r1 => (if r1 < 0 then (Option.bind (p_Firm_isOpenBelow σ a1 a2) fun r3 => (if r3 = 0 then some (0 : Int32) else some (1 : Int32))) else some (0 : Int32)))
set_option maxRecDepth 20000 in
set_option maxHeartbeats 4000000 in
theorem w_p_Pools_isFree (Θ : TT) (σ : St) (a1 : Nat) (a2 : Int32) (b1 : a1 < cN Θ 1) (C : CX Θ cX6_isFree RX6 (some .boolean) ({ frames := 2, cells := 0, slots := 0, locals := 43 } : Room) 3) : WA LC Θ (fun r : Int32 => Qm LC Θ (some (.int r)) σ (narrow .boolean (.int r) = .int r)) 0 [some (.ref (cF Θ 2)), some (.ref (cAd Θ 1 a1)), some (.int a2)] [] σ (p_Pools_isFree σ a1 a2) := by
  unfold p_Pools_isFree
  refine r_aload_n C dX6_isFree_0 rfl ?_
  refine r_aload_n C dX6_isFree_1 rfl ?_
  refine r_callV C (st := []) (As := [.ref (cAd Θ 1 a1)]) (d := 0) (j := 2) dX6_isFree_2 ml_X6_58 vw_X6_joinedAs ⟨_, _, _, _, rfl, rfl⟩ (dm0 (by decide)) (fun r1 e => c_p_Pools_joinedAs Θ.1.2.1 (cW Θ) (cAd Θ) (cN Θ) σ a1 b1 r1 e) rfl rfl (Nat.le_of_ble_eq_true rfl) ⟨rfl, rfl, by decide, by decide⟩ (fun r1 h2 => ?_)
  refine r_if_ge C 24 dX6_isFree_5 (by decide) ?_ ?_
  · refine r_iconst C (0 : Int32) dX6_isFree_24 (by decide) ?_
    exact r_zret C dX6_isFree_25 (show narrow .boolean (.int (0 : Int32)) = .int (0 : Int32) from rfl) rfl rfl (show narrow .boolean (.int (0 : Int32)) = .int (0 : Int32) from rfl)
  · refine r_aload_n C dX6_isFree_8 rfl ?_
    refine r_getF0 C dX6_isFree_9 fg_X6_27 (by decide) ?_
    refine r_aload_n C dX6_isFree_12 rfl ?_
    refine r_iload_n C dX6_isFree_13 rfl ?_
    refine r_callV C (st := []) (As := [.ref (cAd Θ 1 a1), .int a2]) (d := 0) (j := 1) dX6_isFree_14 ml_X6_62 vw_X3_isOpenBelow ⟨_, _, _, _, rfl, rfl⟩ (dm0 (by decide)) (fun r3 e => c_p_Firm_isOpenBelow Θ.1.2.1 (cW Θ) (cAd Θ) (cN Θ) σ a1 a2 b1 r3 e) rfl rfl (Nat.le_of_ble_eq_true rfl) ⟨rfl, rfl, by decide, by decide⟩ (fun r3 h4 => ?_)
    refine r_if_eq C 24 dX6_isFree_17 (by decide) ?_ ?_
    · refine r_iconst C (0 : Int32) dX6_isFree_24 (by decide) ?_
      exact r_zret C dX6_isFree_25 (show narrow .boolean (.int (0 : Int32)) = .int (0 : Int32) from rfl) rfl rfl (show narrow .boolean (.int (0 : Int32)) = .int (0 : Int32) from rfl)
    · refine r_iconst C (1 : Int32) dX6_isFree_20 (by decide) ?_
      refine r_goto C 25 dX6_isFree_21 (by decide) ?_
      exact r_zret C dX6_isFree_25 (show narrow .boolean (.int (1 : Int32)) = .int (1 : Int32) from rfl) rfl rfl (show narrow .boolean (.int (1 : Int32)) = .int (1 : Int32) from rfl)
theorem c_p_Pools_isFree (l : Launch) (ω : Wd) (ad : Nat → Nat → Nat) (N : Nat → Nat) (σ : St) (a1 : Nat) (a2 : Int32) (b1 : a1 < N 1) : ∀ r : Int32, p_Pools_isFree σ a1 a2 = some r → Ct l yX6_isFree cX6_isFree 3 (some .boolean) ({ frames := 2, cells := 0, slots := 0, locals := 43 } : Room) LC ω ad N [.ref (ω.2.1 2), .ref (ad 1 a1), .int a2] σ (some (.int r)) σ (narrow .boolean (.int r) = .int r) :=
  ct_of (o := fun r : Int32 => (some (.int r))) (s' := fun r => σ) (P := fun r => narrow .boolean (.int r) = .int r) [some (.ref (ω.2.1 2)), some (.ref (ad 1 a1)), some (.int a2)] (by decide) rfl (Nat.le_of_ble_eq_true rfl) (fun Γ C _ _ => w_p_Pools_isFree (Γ, ω, 3, ad, N, 0, 0) σ a1 a2 b1 C)
theorem ag_LC_16 : AG LC 16 2 40 := ⟨by decide, rfl⟩
theorem fg_X6_17 : FG LC RX6 17 0 2 2 (1, 16) := ⟨_, _, _, _, _, rfl, rfl, rfl, by decide, uw_X6, (in_wt 181 (by decide +kernel) (by decide +kernel))⟩
theorem fg_X6_37 : FG LC RX6 37 0 2 5 (0, 0) := ⟨_, _, _, _, _, rfl, rfl, rfl, by decide, uw_X6, (in_wt 184 (by decide +kernel) (by decide +kernel))⟩
/-- PostsEnd$Pools.private int reach(PostsEnd$Post, int) -/
def p_Pools_reach (σ : St) (a1 : Nat) (a2 : Int32) : Option (Int32 × St) := (if σ.1 1 a1 0 < 0 then some (a2, σ) else (if σ.1 1 a1 0 < (40 : Int32) then (if a2 < 0 then some (a2, σ) else (if a2 < (40 : Int32) then (Option.bind (ix 40 (σ.1 1 a1 0)) fun i1 => (lt1 (sx σ 0 15 i1 (σ.1 0 2 5)) fun σ2 => (Option.bind (ix 40 a2) fun i3 => (lt1 (sy σ2 0 16 i3 (some a1)) fun σ4 => some (a2 + (1 : Int32), σ4))))) else some (a2, σ))) else some (a2, σ)))
set_option maxRecDepth 20000 in
set_option maxHeartbeats 4000000 in
theorem w_p_Pools_reach (Θ : TT) (σ : St) (a1 : Nat) (a2 : Int32) (b1 : a1 < cN Θ 1) (C : CX Θ cX6_reach RX6 (some .int) ({ frames := 0, cells := 0, slots := 0, locals := 0 } : Room) 4) : WA LC Θ (fun r : Int32 × St => Qm LC Θ (some (.int r.1)) r.2 (True)) 0 [some (.ref (cF Θ 2)), some (.ref (cAd Θ 1 a1)), some (.int a2), none] [] σ (p_Pools_reach σ a1 a2) := by
  unfold p_Pools_reach
  refine r_aload_n C dX6_reach_0 rfl ?_
  refine r_getI C dX6_reach_1 (fg_X6_65 _) (by decide) b1 ?_
  refine r_istore_n C [some (.ref (cF Θ 2)), some (.ref (cAd Θ 1 a1)), some (.int a2), some (.int (σ.1 1 a1 0))] dX6_reach_4 rfl (by decide) rfl ?_
  refine r_iload_n C dX6_reach_5 rfl ?_
  refine r_if_lt C 25 dX6_reach_6 (by decide) ?_ ?_
  · refine r_iload_n C dX6_reach_25 rfl ?_
    exact r_iret C dX6_reach_26 rfl rfl trivial
  · refine r_iload_n C dX6_reach_9 rfl ?_
    refine r_bipush C (40 : Int32) dX6_reach_10 (by decide) ?_
    refine r_icmp_ge C 25 dX6_reach_12 (by decide) ?_ ?_
    · refine r_iload_n C dX6_reach_25 rfl ?_
      exact r_iret C dX6_reach_26 rfl rfl trivial
    · refine r_iload_n C dX6_reach_15 rfl ?_
      refine r_if_lt C 25 dX6_reach_16 (by decide) ?_ ?_
      · refine r_iload_n C dX6_reach_25 rfl ?_
        exact r_iret C dX6_reach_26 rfl rfl trivial
      · refine r_iload_n C dX6_reach_19 rfl ?_
        refine r_bipush C (40 : Int32) dX6_reach_20 (by decide) ?_
        refine r_icmp_lt C 27 dX6_reach_22 (by decide) ?_ ?_
        · refine r_aload_n C dX6_reach_27 rfl ?_
          refine r_getF0 C dX6_reach_28 fg_X6_9 (by decide) ?_
          refine r_iload_n C dX6_reach_31 rfl ?_
          refine r_aload_n C dX6_reach_32 rfl ?_
          refine r_getI0 C dX6_reach_33 fg_X6_37 (by decide) ?_
          refine r_iast C dX6_reach_36 ag_LC_15 (fun i1 => ?_)
          refine WA.gen (fun σ2 => ?_)
          refine r_aload_n C dX6_reach_37 rfl ?_
          refine r_getF0 C dX6_reach_38 fg_X6_17 (by decide) ?_
          refine r_iload_n C dX6_reach_41 rfl ?_
          refine r_aload_n C dX6_reach_42 rfl ?_
          refine r_aast C (x := (some a1)) dX6_reach_43 ag_LC_16 rfl rfl (fun _ => rfl) (by decide) (fun q e => (Option.some.inj e) ▸ b1) (fun i3 => ?_)
          refine WA.gen (fun σ4 => ?_)
          refine r_iload_n C dX6_reach_44 rfl ?_
          refine r_iconst C (1 : Int32) dX6_reach_45 (by decide) ?_
          refine r_iadd C dX6_reach_46 ?_
          exact r_iret C dX6_reach_47 rfl rfl trivial
        · refine r_iload_n C dX6_reach_25 rfl ?_
          exact r_iret C dX6_reach_26 rfl rfl trivial
theorem c_p_Pools_reach (l : Launch) (ω : Wd) (ad : Nat → Nat → Nat) (N : Nat → Nat) (σ : St) (a1 : Nat) (a2 : Int32) (b1 : a1 < N 1) : ∀ r : Int32 × St, p_Pools_reach σ a1 a2 = some r → Ct l yX6_reach cX6_reach 4 (some .int) ({ frames := 0, cells := 0, slots := 0, locals := 0 } : Room) LC ω ad N [.ref (ω.2.1 2), .ref (ad 1 a1), .int a2] σ (some (.int r.1)) r.2 (True) :=
  ct_of (o := fun r : Int32 × St => (some (.int r.1))) (s' := fun r => r.2) (P := fun r => True) [some (.ref (ω.2.1 2)), some (.ref (ad 1 a1)), some (.int a2), none] (by decide) rfl (Nat.le_of_ble_eq_true rfl) (fun Γ C _ _ => w_p_Pools_reach (Γ, ω, 4, ad, N, 0, 0) σ a1 a2 b1 C)
theorem vw_X6_isFree : VW yX6_isFree cX6_isFree 3 (some .boolean) 2 := ⟨⟨(in_wt 82 (by decide +kernel) (by decide +kernel)), (in_wt 759 (by decide +kernel) (by decide +kernel)), by decide +kernel⟩, (in_wt 758 (by decide +kernel) (by decide +kernel)), (in_wt 2 (by decide +kernel) (by decide +kernel))⟩
theorem vw_X6_reach : VW yX6_reach cX6_reach 4 (some .int) 2 := ⟨⟨(in_wt 82 (by decide +kernel) (by decide +kernel)), (in_wt 776 (by decide +kernel) (by decide +kernel)), by decide +kernel⟩, (in_wt 775 (by decide +kernel) (by decide +kernel)), (in_wt 4 (by decide +kernel) (by decide +kernel))⟩
theorem ml_X6_50 : Cond.methodLink RX6 50 yX6_isFree ∈ wt := in_wt 756 (by decide +kernel) (by decide +kernel)
theorem ml_X6_68 : Cond.methodLink RX6 68 yX6_reach ∈ wt := in_wt 773 (by decide +kernel) (by decide +kernel)
theorem ml_X6_72 : Cond.methodLink RX6 72 yX3_isAlike ∈ wt := in_wt 777 (by decide +kernel) (by decide +kernel)
/-- PostsEnd$Pools.private void spread(PostsEnd$Post, int) -/
def p_Pools_spread (σ : St) (a1 : Nat) (a2 : Int32) : Option St := (Option.bind (p_Pools_reach σ a1 (0 : Int32)) fun r1 => (Option.bind (itr0 (S := Int32 × Int32 × St) (E := St) (fun s3 => (if s3.2.1 < s3.1 then (if s3.2.1 < (40 : Int32) then (Option.bind (ix 40 s3.2.1) fun i13 => lt1 (s3.2.2.2 0 16 i13) fun x11 => (Option.bind (itr0 (S := Int32 × Int32 × St) (E := Int32 × St) (fun s14 => (if s14.2.1 < s14.2.2.1 0 1 2 then (Option.bind (p_Firm_postAt s14.2.2 s14.2.1) fun r22 => (Option.bind (α := Int32 × St) ((Option.elim x11 (some (s14.1, s14.2.2)) fun q27 => (Option.elim r22 (some (s14.1, s14.2.2)) fun q29 => (Option.bind (p_Pools_isFree s14.2.2 q29 a2) fun r31 => (if r31 = 0 then some (s14.1, s14.2.2) else (Option.bind (p_Firm_isAlike s14.2.2 q27 q29) fun r33 => (if r33 = 0 then some (s14.1, s14.2.2) else (Option.bind (p_Pools_reach s14.2.2 q29 s14.1) fun r35 => some (r35.1, r35.2))))))))) fun t24 => some (.inl (t24.1, s14.2.1 + (1 : Int32), t24.2)))) else some (.inr (s14.1, s14.2.2)))) FU (s3.1, (0 : Int32), s3.2.2)) fun e19 => some (.inl (e19.1, s3.2.1 + (1 : Int32), e19.2)))) else some (.inr s3.2.2)) else some (.inr s3.2.2))) FU (r1.1, (0 : Int32), r1.2)) fun e8 => some e8))
set_option maxRecDepth 20000 in
set_option maxHeartbeats 4000000 in
theorem w_p_Pools_spread (Θ : TT) (σ : St) (a1 : Nat) (a2 : Int32) (b1 : a1 < cN Θ 1) (C : CX Θ cX6_spread RX6 none ({ frames := 3, cells := 0, slots := 0, locals := 65 } : Room) 8) : WA LC Θ (fun r : St => Qm LC Θ none r (True)) 0 [some (.ref (cF Θ 2)), some (.ref (cAd Θ 1 a1)), some (.int a2), none, none, none, none, none] [] σ (p_Pools_spread σ a1 a2) := by
  unfold p_Pools_spread
  refine r_aload_n C dX6_spread_0 rfl ?_
  refine r_aload_n C dX6_spread_1 rfl ?_
  refine r_iconst C (0 : Int32) dX6_spread_2 (by decide) ?_
  refine r_callV C (st := []) (As := [.ref (cAd Θ 1 a1), .int (0 : Int32)]) (d := 0) (j := 2) dX6_spread_3 ml_X6_68 vw_X6_reach ⟨_, _, _, _, rfl, rfl⟩ (dm0 (by decide)) (fun r1 e => c_p_Pools_reach Θ.1.2.1 (cW Θ) (cAd Θ) (cN Θ) σ a1 (0 : Int32) b1 r1 e) rfl rfl (Nat.le_of_ble_eq_true rfl) ⟨rfl, rfl, by decide, by decide⟩ (fun r1 h2 => ?_)
  refine r_istore_n C [some (.ref (cF Θ 2)), some (.ref (cAd Θ 1 a1)), some (.int a2), some (.int r1.1), none, none, none, none] dX6_spread_6 rfl (by decide) rfl ?_
  refine r_iconst C (0 : Int32) dX6_spread_7 (by decide) ?_
  refine r_istore C [some (.ref (cF Θ 2)), some (.ref (cAd Θ 1 a1)), some (.int a2), some (.int r1.1), some (.int (0 : Int32)), none, none, none] dX6_spread_8 rfl (by decide) rfl ?_
  refine WA.join (α := St) 112 (fun e8 => [none, none, none, none, none, none, none, none]) (fun e8 => []) (fun e8 => e8) (fun e8 => True) (fun e8 h9 => ?_) (fun J10 => ?_)
  · exact r_vret C dX6_spread_112 rfl rfl trivial
  · refine WA.wk (lv' := [some (.ref (cF Θ 2)), none, some (.int a2), some (.int r1.1), some (.int (0 : Int32)), none, none, none]) [true, false, true, true, true, false, false, false] rfl ?_
    refine WA.itr (S := Int32 × Int32 × St) 10 (fun s3 => [some (.ref (cF Θ 2)), none, some (.int a2), some (.int s3.1), some (.int s3.2.1), none, none, none]) (fun s3 => []) (fun s3 => s3.2.2) (fun s3 => True) (fun s3 k7 h4 ih5 hx6 => ?_) FU (r1.1, (0 : Int32), r1.2) trivial
    refine r_iload C dX6_spread_10 rfl ?_
    refine r_iload_n C dX6_spread_12 rfl ?_
    refine WA.bif ?_
    refine r_icmp_ge C 112 dX6_spread_13 (by decide) ?_ ?_
    · refine WA.wk (lv' := [none, none, none, none, none, none, none, none]) [false, false, false, false, false, false, false, false] rfl ?_
      exact WA.eqK (hx6 _) (J10 s3.2.2 trivial)
    · refine r_iload C dX6_spread_16 rfl ?_
      refine r_bipush C (40 : Int32) dX6_spread_18 (by decide) ?_
      refine WA.bif ?_
      refine r_icmp_ge C 112 dX6_spread_20 (by decide) ?_ ?_
      · refine WA.wk (lv' := [none, none, none, none, none, none, none, none]) [false, false, false, false, false, false, false, false] rfl ?_
        exact WA.eqK (hx6 _) (J10 s3.2.2 trivial)
      · refine r_aload_n C dX6_spread_23 rfl ?_
        refine r_getF0 C dX6_spread_24 fg_X6_17 (by decide) ?_
        refine r_iload C dX6_spread_27 rfl ?_
        refine WA.asl ?_
        refine r_aald C dX6_spread_29 ag_LC_16 rfl (fun x11 h12 => ?_)
        refine r_astore C (x := Option.map (cAd Θ 1) x11) [some (.ref (cF Θ 2)), none, some (.int a2), some (.int s3.1), some (.int s3.2.1), some (va_rf (Option.map (cAd Θ 1) x11)), none, none] dX6_spread_30 rfl (by decide) rfl ?_
        refine r_iconst C (0 : Int32) dX6_spread_32 (by decide) ?_
        refine r_istore C [some (.ref (cF Θ 2)), none, some (.int a2), some (.int s3.1), some (.int s3.2.1), some (va_rf (Option.map (cAd Θ 1) x11)), some (.int (0 : Int32)), none] dX6_spread_33 rfl (by decide) (lvok_q (x := Option.map (cAd Θ 1) x11) rfl) ?_
        refine WA.asc ?_
        refine WA.join (α := Int32 × St) 106 (fun e19 => [some (.ref (cF Θ 2)), none, some (.int a2), some (.int e19.1), some (.int s3.2.1), none, none, none]) (fun e19 => []) (fun e19 => e19.2) (fun e19 => True) (fun e19 h20 => ?_) (fun J21 => ?_)
        · refine r_iinc C (1 : Int32) [some (.ref (cF Θ 2)), none, some (.int a2), some (.int e19.1), some (.int (s3.2.1 + (1 : Int32))), none, none, none] dX6_spread_106 (by decide) rfl rfl (by decide) rfl ?_
          refine r_goto C 10 dX6_spread_109 (by decide) ?_
          refine WA.wk (lv' := [some (.ref (cF Θ 2)), none, some (.int a2), some (.int e19.1), some (.int (s3.2.1 + (1 : Int32))), none, none, none]) [true, false, true, true, true, false, false, false] rfl ?_
          exact ih5 (e19.1, s3.2.1 + (1 : Int32), e19.2) trivial
        · refine WA.wk (lv' := [some (.ref (cF Θ 2)), none, some (.int a2), some (.int s3.1), some (.int s3.2.1), some (va_rf (Option.map (cAd Θ 1) x11)), some (.int (0 : Int32)), none]) [true, false, true, true, true, true, true, false] rfl ?_
          refine WA.itr (S := Int32 × Int32 × St) 35 (fun s14 => [some (.ref (cF Θ 2)), none, some (.int a2), some (.int s14.1), some (.int s3.2.1), some (va_rf (Option.map (cAd Θ 1) x11)), some (.int s14.2.1), none]) (fun s14 => []) (fun s14 => s14.2.2) (fun s14 => True) (fun s14 k18 h15 ih16 hx17 => ?_) FU (s3.1, (0 : Int32), s3.2.2) trivial
          refine r_iload C dX6_spread_35 rfl ?_
          refine r_aload_n C dX6_spread_37 rfl ?_
          refine r_getF0 C dX6_spread_38 fg_X6_27 (by decide) ?_
          refine r_getI0 C dX6_spread_41 fg_X6_41 (by decide) ?_
          refine WA.bif ?_
          refine r_icmp_ge C 106 dX6_spread_44 (by decide) ?_ ?_
          · refine WA.wk (lv' := [some (.ref (cF Θ 2)), none, some (.int a2), some (.int s14.1), some (.int s3.2.1), none, none, none]) [true, false, true, true, true, false, false, false] rfl ?_
            exact WA.eqK (hx17 _) (J21 (s14.1, s14.2.2) trivial)
          · refine r_aload_n C dX6_spread_47 rfl ?_
            refine r_getF0 C dX6_spread_48 fg_X6_27 (by decide) ?_
            refine r_iload C dX6_spread_51 rfl ?_
            refine WA.asc ?_
            refine r_callV C (st := []) (As := [.int s14.2.1]) (d := 0) (j := 1) dX6_spread_53 ml_X6_46 vw_X3_postAt ⟨_, _, _, _, rfl, rfl⟩ (dm0 (by decide)) (fun r22 e => c_p_Firm_postAt Θ.1.2.1 (cW Θ) (cAd Θ) (cN Θ) s14.2.2 s14.2.1 r22 e) rfl rfl (Nat.le_of_ble_eq_true rfl) ⟨rfl, rfl, by decide, by decide⟩ (fun r22 h23 => ?_)
            refine r_astore C (x := Option.map (cAd Θ 1) r22) [some (.ref (cF Θ 2)), none, some (.int a2), some (.int s14.1), some (.int s3.2.1), some (va_rf (Option.map (cAd Θ 1) x11)), some (.int s14.2.1), some (va_rf (Option.map (cAd Θ 1) r22))] dX6_spread_56 rfl (by decide) rfl ?_
            refine r_aloadQ C (x := Option.map (cAd Θ 1) x11) dX6_spread_58 rfl ?_
            refine WA.asc ?_
            refine WA.join (α := Int32 × St) 100 (fun t24 => [some (.ref (cF Θ 2)), none, some (.int a2), some (.int t24.1), some (.int s3.2.1), some (va_rf (Option.map (cAd Θ 1) x11)), some (.int s14.2.1), none]) (fun t24 => []) (fun t24 => t24.2) (fun t24 => True) (fun t24 h25 => ?_) (fun J26 => ?_)
            · refine r_iinc C (1 : Int32) [some (.ref (cF Θ 2)), none, some (.int a2), some (.int t24.1), some (.int s3.2.1), some (va_rf (Option.map (cAd Θ 1) x11)), some (.int (s14.2.1 + (1 : Int32))), none] dX6_spread_100 (by decide) rfl rfl (by decide) (lvok_q (x := Option.map (cAd Θ 1) x11) rfl) ?_
              refine r_goto C 35 dX6_spread_103 (by decide) ?_
              refine WA.wk (lv' := [some (.ref (cF Θ 2)), none, some (.int a2), some (.int t24.1), some (.int s3.2.1), some (va_rf (Option.map (cAd Θ 1) x11)), some (.int (s14.2.1 + (1 : Int32))), none]) [true, false, true, true, true, true, true, false] rfl ?_
              exact ih16 (t24.1, s14.2.1 + (1 : Int32), t24.2) trivial
            · refine WA.bel ?_
              rcases x11 with _ | q27
              · refine r_ifnullN C 100 dX6_spread_60 (by decide) ?_
                refine WA.wk (lv' := [some (.ref (cF Θ 2)), none, some (.int a2), some (.int s14.1), some (.int s3.2.1), some (.null), some (.int s14.2.1), none]) [true, false, true, true, true, true, true, false] rfl ?_
                exact J26 (s14.1, s14.2.2) trivial
              · have h28 := h12 q27 rfl
                refine r_ifnullS C dX6_spread_60 ?_
                refine r_aloadQ C (x := Option.map (cAd Θ 1) r22) dX6_spread_63 rfl ?_
                refine WA.bel ?_
                rcases r22 with _ | q29
                · refine r_ifnullN C 100 dX6_spread_65 (by decide) ?_
                  refine WA.wk (lv' := [some (.ref (cF Θ 2)), none, some (.int a2), some (.int s14.1), some (.int s3.2.1), some (.ref (cAd Θ 1 q27)), some (.int s14.2.1), none]) [true, false, true, true, true, true, true, false] rfl ?_
                  exact J26 (s14.1, s14.2.2) trivial
                · have h30 := h23 q29 rfl
                  refine r_ifnullS C dX6_spread_65 ?_
                  refine r_aload_n C dX6_spread_68 rfl ?_
                  refine r_aload C dX6_spread_69 rfl ?_
                  refine r_iload_n C dX6_spread_71 rfl ?_
                  refine WA.asc ?_
                  refine r_callV C (st := []) (As := [.ref (cAd Θ 1 q29), .int a2]) (d := 0) (j := 2) dX6_spread_72 ml_X6_50 vw_X6_isFree ⟨_, _, _, _, rfl, rfl⟩ (dm0 (by decide)) (fun r31 e => c_p_Pools_isFree Θ.1.2.1 (cW Θ) (cAd Θ) (cN Θ) s14.2.2 q29 a2 h30 r31 e) rfl rfl (Nat.le_of_ble_eq_true rfl) ⟨rfl, rfl, by decide, by decide⟩ (fun r31 h32 => ?_)
                  refine WA.bif ?_
                  refine r_if_eq C 100 dX6_spread_75 (by decide) ?_ ?_
                  · refine WA.wk (lv' := [some (.ref (cF Θ 2)), none, some (.int a2), some (.int s14.1), some (.int s3.2.1), some (.ref (cAd Θ 1 q27)), some (.int s14.2.1), none]) [true, false, true, true, true, true, true, false] rfl ?_
                    exact J26 (s14.1, s14.2.2) trivial
                  · refine r_aload_n C dX6_spread_78 rfl ?_
                    refine r_getF0 C dX6_spread_79 fg_X6_27 (by decide) ?_
                    refine r_aload C dX6_spread_82 rfl ?_
                    refine r_aload C dX6_spread_84 rfl ?_
                    refine WA.asc ?_
                    refine r_callV C (st := []) (As := [.ref (cAd Θ 1 q27), .ref (cAd Θ 1 q29)]) (d := 0) (j := 1) dX6_spread_86 ml_X6_72 vw_X3_isAlike ⟨_, _, _, _, rfl, rfl⟩ (dm0 (by decide)) (fun r33 e => c_p_Firm_isAlike Θ.1.2.1 (cW Θ) (cAd Θ) (cN Θ) s14.2.2 q27 q29 h28 h30 r33 e) rfl rfl (Nat.le_of_ble_eq_true rfl) ⟨rfl, rfl, by decide, by decide⟩ (fun r33 h34 => ?_)
                    refine WA.bif ?_
                    refine r_if_eq C 100 dX6_spread_89 (by decide) ?_ ?_
                    · refine WA.wk (lv' := [some (.ref (cF Θ 2)), none, some (.int a2), some (.int s14.1), some (.int s3.2.1), some (.ref (cAd Θ 1 q27)), some (.int s14.2.1), none]) [true, false, true, true, true, true, true, false] rfl ?_
                      exact J26 (s14.1, s14.2.2) trivial
                    · refine r_aload_n C dX6_spread_92 rfl ?_
                      refine r_aload C dX6_spread_93 rfl ?_
                      refine r_iload_n C dX6_spread_95 rfl ?_
                      refine WA.asc ?_
                      refine r_callV C (st := []) (As := [.ref (cAd Θ 1 q29), .int s14.1]) (d := 0) (j := 2) dX6_spread_96 ml_X6_68 vw_X6_reach ⟨_, _, _, _, rfl, rfl⟩ (dm0 (by decide)) (fun r35 e => c_p_Pools_reach Θ.1.2.1 (cW Θ) (cAd Θ) (cN Θ) s14.2.2 q29 s14.1 h30 r35 e) rfl rfl (Nat.le_of_ble_eq_true rfl) ⟨rfl, rfl, by decide, by decide⟩ (fun r35 h36 => ?_)
                      refine r_istore_n C [some (.ref (cF Θ 2)), none, some (.int a2), some (.int r35.1), some (.int s3.2.1), some (.ref (cAd Θ 1 q27)), some (.int s14.2.1), some (.ref (cAd Θ 1 q29))] dX6_spread_99 rfl (by decide) rfl ?_
                      refine WA.wk (lv' := [some (.ref (cF Θ 2)), none, some (.int a2), some (.int r35.1), some (.int s3.2.1), some (.ref (cAd Θ 1 q27)), some (.int s14.2.1), none]) [true, false, true, true, true, true, true, false] rfl ?_
                      exact J26 (r35.1, r35.2) trivial
theorem c_p_Pools_spread (l : Launch) (ω : Wd) (ad : Nat → Nat → Nat) (N : Nat → Nat) (σ : St) (a1 : Nat) (a2 : Int32) (b1 : a1 < N 1) : ∀ r : St, p_Pools_spread σ a1 a2 = some r → Ct l yX6_spread cX6_spread 8 none ({ frames := 3, cells := 0, slots := 0, locals := 65 } : Room) LC ω ad N [.ref (ω.2.1 2), .ref (ad 1 a1), .int a2] σ none r (True) :=
  ct_of (o := fun r : St => none) (s' := fun r => r) (P := fun r => True) [some (.ref (ω.2.1 2)), some (.ref (ad 1 a1)), some (.int a2), none, none, none, none, none] (by decide) rfl (Nat.le_of_ble_eq_true rfl) (fun Γ C _ _ => w_p_Pools_spread (Γ, ω, 8, ad, N, 0, 0) σ a1 a2 b1 C)
theorem vw_X6_spread : VW yX6_spread cX6_spread 8 none 2 := ⟨⟨(in_wt 82 (by decide +kernel) (by decide +kernel)), (in_wt 772 (by decide +kernel) (by decide +kernel)), by decide +kernel⟩, (in_wt 771 (by decide +kernel) (by decide +kernel)), (in_wt 3 (by decide +kernel) (by decide +kernel))⟩
theorem fp_X6_37 : FP LC RX6 37 0 2 5 (0, 0) .int := ⟨_, _, _, _, _, tyX6, rfl, rfl, rfl, by decide, uw_X6, (in_wt 184 (by decide +kernel) (by decide +kernel)), tyX6_ok, nmX6, rfl, by decide +kernel⟩
theorem ml_X6_31 : Cond.methodLink RX6 31 yJ7_fill_53178 ∈ wt := in_wt 752 (by decide +kernel) (by decide +kernel)
theorem ml_X6_54 : Cond.methodLink RX6 54 yX6_spread ∈ wt := in_wt 769 (by decide +kernel) (by decide +kernel)
/-- PostsEnd$Pools.void join(int) -/
def p_Pools_join (σ : St) (a1 : Int32) : Option St := (Option.bind (j_Arrays_fill σ 15 40 (-1 : Int32)) fun r1 => (lt1 (sx r1 0 2 5 (0 : Int32)) fun σ3 => (Option.bind (itr0 (S := Int32 × St) (E := St) (fun s4 => (if s4.1 < s4.2.1 0 1 2 then (Option.bind (p_Firm_postAt s4.2 s4.1) fun r12 => (Option.bind (α := St) ((Option.elim r12 (some s4.2) fun q17 => (Option.bind (p_Pools_isFree s4.2 q17 a1) fun r19 => (if r19 = 0 then some s4.2 else (Option.bind (p_Pools_spread s4.2 q17 a1) fun r21 => (lt1 (sx r21 0 2 5 ((r21.1 0 2 5) + (1 : Int32))) fun σ23 => some σ23)))))) fun t14 => some (.inl (s4.1 + (1 : Int32), t14)))) else some (.inr s4.2))) FU ((0 : Int32), σ3)) fun e9 => some e9)))
set_option maxRecDepth 20000 in
set_option maxHeartbeats 4000000 in
theorem w_p_Pools_join (Θ : TT) (σ : St) (a1 : Int32) (C : CX Θ cX6_join RX6 none ({ frames := 4, cells := 0, slots := 0, locals := 92 } : Room) 4) : WA LC Θ (fun r : St => Qm LC Θ none r (True)) 0 [some (.ref (cF Θ 2)), some (.int a1), none, none] [] σ (p_Pools_join σ a1) := by
  unfold p_Pools_join
  refine r_aload_n C dX6_join_0 rfl ?_
  refine r_getF0 C dX6_join_1 fg_X6_9 (by decide) ?_
  refine r_iconst C (-1 : Int32) dX6_join_4 (by decide) ?_
  refine r_callS C (st := []) (As := [.ref (cF Θ 15), .int (-1 : Int32)]) dX6_join_5 ml_X6_31 sw_J7_fill_53178 (fun r1 e => c_j_Arrays_fill Θ.1.2.1 (cW Θ) (cAd Θ) (cN Θ) σ 15 40 (-1 : Int32) ag_LC_15 r1 e) rfl rfl (Nat.le_of_ble_eq_true rfl) ⟨rfl, rfl, by decide, by decide⟩ (fun r1 h2 => ?_)
  refine r_aload_n C dX6_join_8 rfl ?_
  refine r_iconst C (0 : Int32) dX6_join_9 (by decide) ?_
  refine r_putI0 C dX6_join_10 fp_X6_37 (by decide) ?_
  refine WA.gen (fun σ3 => ?_)
  refine r_iconst C (0 : Int32) dX6_join_13 (by decide) ?_
  refine r_istore_n C [some (.ref (cF Θ 2)), some (.int a1), some (.int (0 : Int32)), none] dX6_join_14 rfl (by decide) rfl ?_
  refine WA.join (α := St) 70 (fun e9 => [none, none, none, none]) (fun e9 => []) (fun e9 => e9) (fun e9 => True) (fun e9 h10 => ?_) (fun J11 => ?_)
  · exact r_vret C dX6_join_70 rfl rfl trivial
  · refine WA.wk (lv' := [some (.ref (cF Θ 2)), some (.int a1), some (.int (0 : Int32)), none]) [true, true, true, false] rfl ?_
    refine WA.itr (S := Int32 × St) 15 (fun s4 => [some (.ref (cF Θ 2)), some (.int a1), some (.int s4.1), none]) (fun s4 => []) (fun s4 => s4.2) (fun s4 => True) (fun s4 k8 h5 ih6 hx7 => ?_) FU ((0 : Int32), σ3) trivial
    refine r_iload_n C dX6_join_15 rfl ?_
    refine r_aload_n C dX6_join_16 rfl ?_
    refine r_getF0 C dX6_join_17 fg_X6_27 (by decide) ?_
    refine r_getI0 C dX6_join_20 fg_X6_41 (by decide) ?_
    refine WA.bif ?_
    refine r_icmp_ge C 70 dX6_join_23 (by decide) ?_ ?_
    · refine WA.wk (lv' := [none, none, none, none]) [false, false, false, false] rfl ?_
      exact WA.eqK (hx7 _) (J11 s4.2 trivial)
    · refine r_aload_n C dX6_join_26 rfl ?_
      refine r_getF0 C dX6_join_27 fg_X6_27 (by decide) ?_
      refine r_iload_n C dX6_join_30 rfl ?_
      refine WA.asc ?_
      refine r_callV C (st := []) (As := [.int s4.1]) (d := 0) (j := 1) dX6_join_31 ml_X6_46 vw_X3_postAt ⟨_, _, _, _, rfl, rfl⟩ (dm0 (by decide)) (fun r12 e => c_p_Firm_postAt Θ.1.2.1 (cW Θ) (cAd Θ) (cN Θ) s4.2 s4.1 r12 e) rfl rfl (Nat.le_of_ble_eq_true rfl) ⟨rfl, rfl, by decide, by decide⟩ (fun r12 h13 => ?_)
      refine r_astore_n C (x := Option.map (cAd Θ 1) r12) [some (.ref (cF Θ 2)), some (.int a1), some (.int s4.1), some (va_rf (Option.map (cAd Θ 1) r12))] dX6_join_34 rfl (by decide) rfl ?_
      refine r_aload_nQ C (x := Option.map (cAd Θ 1) r12) dX6_join_35 rfl ?_
      refine WA.asc ?_
      refine WA.join (α := St) 64 (fun t14 => [some (.ref (cF Θ 2)), some (.int a1), some (.int s4.1), none]) (fun t14 => []) (fun t14 => t14) (fun t14 => True) (fun t14 h15 => ?_) (fun J16 => ?_)
      · refine r_iinc C (1 : Int32) [some (.ref (cF Θ 2)), some (.int a1), some (.int (s4.1 + (1 : Int32))), none] dX6_join_64 (by decide) rfl rfl (by decide) rfl ?_
        refine r_goto C 15 dX6_join_67 (by decide) ?_
        refine WA.wk (lv' := [some (.ref (cF Θ 2)), some (.int a1), some (.int (s4.1 + (1 : Int32))), none]) [true, true, true, false] rfl ?_
        exact ih6 (s4.1 + (1 : Int32), t14) trivial
      · refine WA.bel ?_
        rcases r12 with _ | q17
        · refine r_ifnullN C 64 dX6_join_36 (by decide) ?_
          refine WA.wk (lv' := [some (.ref (cF Θ 2)), some (.int a1), some (.int s4.1), none]) [true, true, true, false] rfl ?_
          exact J16 s4.2 trivial
        · have h18 := h13 q17 rfl
          refine r_ifnullS C dX6_join_36 ?_
          refine r_aload_n C dX6_join_39 rfl ?_
          refine r_aload_n C dX6_join_40 rfl ?_
          refine r_iload_n C dX6_join_41 rfl ?_
          refine WA.asc ?_
          refine r_callV C (st := []) (As := [.ref (cAd Θ 1 q17), .int a1]) (d := 0) (j := 2) dX6_join_42 ml_X6_50 vw_X6_isFree ⟨_, _, _, _, rfl, rfl⟩ (dm0 (by decide)) (fun r19 e => c_p_Pools_isFree Θ.1.2.1 (cW Θ) (cAd Θ) (cN Θ) s4.2 q17 a1 h18 r19 e) rfl rfl (Nat.le_of_ble_eq_true rfl) ⟨rfl, rfl, by decide, by decide⟩ (fun r19 h20 => ?_)
          refine WA.bif ?_
          refine r_if_eq C 64 dX6_join_45 (by decide) ?_ ?_
          · refine WA.wk (lv' := [some (.ref (cF Θ 2)), some (.int a1), some (.int s4.1), none]) [true, true, true, false] rfl ?_
            exact J16 s4.2 trivial
          · refine r_aload_n C dX6_join_48 rfl ?_
            refine r_aload_n C dX6_join_49 rfl ?_
            refine r_iload_n C dX6_join_50 rfl ?_
            refine WA.asc ?_
            refine r_callV C (st := []) (As := [.ref (cAd Θ 1 q17), .int a1]) (d := 0) (j := 2) dX6_join_51 ml_X6_54 vw_X6_spread ⟨_, _, _, _, rfl, rfl⟩ (dm0 (by decide)) (fun r21 e => c_p_Pools_spread Θ.1.2.1 (cW Θ) (cAd Θ) (cN Θ) s4.2 q17 a1 h18 r21 e) rfl rfl (Nat.le_of_ble_eq_true rfl) ⟨rfl, rfl, by decide, by decide⟩ (fun r21 h22 => ?_)
            refine r_aload_n C dX6_join_54 rfl ?_
            refine r_dup C dX6_join_55 rfl ?_
            refine r_getI0 C dX6_join_56 fg_X6_37 (by decide) ?_
            refine r_iconst C (1 : Int32) dX6_join_59 (by decide) ?_
            refine r_iadd C dX6_join_60 ?_
            refine r_putI0 C dX6_join_61 fp_X6_37 (by decide) ?_
            refine WA.genB (fun σ23 => ?_)
            refine WA.wk (lv' := [some (.ref (cF Θ 2)), some (.int a1), some (.int s4.1), none]) [true, true, true, false] rfl ?_
            exact J16 σ23 trivial
theorem c_p_Pools_join (l : Launch) (ω : Wd) (ad : Nat → Nat → Nat) (N : Nat → Nat) (σ : St) (a1 : Int32) : ∀ r : St, p_Pools_join σ a1 = some r → Ct l yX6_join cX6_join 4 none ({ frames := 4, cells := 0, slots := 0, locals := 92 } : Room) LC ω ad N [.ref (ω.2.1 2), .int a1] σ none r (True) :=
  ct_of (o := fun r : St => none) (s' := fun r => r) (P := fun r => True) [some (.ref (ω.2.1 2)), some (.int a1), none, none] (by decide) rfl (Nat.le_of_ble_eq_true rfl) (fun Γ C _ _ => w_p_Pools_join (Γ, ω, 4, ad, N, 0, 0) σ a1 C)
theorem fg_X6_104 (j : Nat) : FG LC RX6 104 2 j 4 (2, 0) := ⟨_, _, _, _, _, rfl, rfl, rfl, by decide, uw_X5, (in_wt 539 (by decide +kernel) (by decide +kernel))⟩
/-- PostsEnd$Pools.private boolean holdsHere(PostsEnd$Person) -/
def p_Pools_holdsHere (σ : St) (a1 : Nat) : Option Int32 := (lt1 (σ.2 2 a1 4) fun x1 => (Option.elim x1 (some (0 : Int32)) fun q3 => (Option.bind (p_Pools_joinedAs σ q3) fun r5 => (if r5 = σ.1 0 2 4 then some (1 : Int32) else some (0 : Int32)))))
set_option maxRecDepth 20000 in
set_option maxHeartbeats 4000000 in
theorem w_p_Pools_holdsHere (Θ : TT) (σ : St) (a1 : Nat) (b1 : a1 < cN Θ 2) (C : CX Θ cX6_holdsHere RX6 (some .boolean) ({ frames := 1, cells := 0, slots := 0, locals := 22 } : Room) 3) : WA LC Θ (fun r : Int32 => Qm LC Θ (some (.int r)) σ (narrow .boolean (.int r) = .int r)) 0 [some (.ref (cF Θ 2)), some (.ref (cAd Θ 2 a1)), none] [] σ (p_Pools_holdsHere σ a1) := by
  unfold p_Pools_holdsHere
  refine r_aload_n C dX6_holdsHere_0 rfl ?_
  refine r_getQ C dX6_holdsHere_1 (fg_X6_104 _) (by decide) b1 (fun x1 h2 => ?_)
  refine r_astore_n C (x := Option.map (cAd Θ 1) x1) [some (.ref (cF Θ 2)), some (.ref (cAd Θ 2 a1)), some (va_rf (Option.map (cAd Θ 1) x1))] dX6_holdsHere_4 rfl (by decide) rfl ?_
  refine r_aload_nQ C (x := Option.map (cAd Θ 1) x1) dX6_holdsHere_5 rfl ?_
  rcases x1 with _ | q3
  · refine r_ifnullN C 25 dX6_holdsHere_6 (by decide) ?_
    refine r_iconst C (0 : Int32) dX6_holdsHere_25 (by decide) ?_
    exact r_zret C dX6_holdsHere_26 (show narrow .boolean (.int (0 : Int32)) = .int (0 : Int32) from rfl) rfl rfl (show narrow .boolean (.int (0 : Int32)) = .int (0 : Int32) from rfl)
  · have h4 := h2 q3 rfl
    refine r_ifnullS C dX6_holdsHere_6 ?_
    refine r_aload_n C dX6_holdsHere_9 rfl ?_
    refine r_aload_n C dX6_holdsHere_10 rfl ?_
    refine r_callV C (st := []) (As := [.ref (cAd Θ 1 q3)]) (d := 0) (j := 2) dX6_holdsHere_11 ml_X6_58 vw_X6_joinedAs ⟨_, _, _, _, rfl, rfl⟩ (dm0 (by decide)) (fun r5 e => c_p_Pools_joinedAs Θ.1.2.1 (cW Θ) (cAd Θ) (cN Θ) σ q3 h4 r5 e) rfl rfl (Nat.le_of_ble_eq_true rfl) ⟨rfl, rfl, by decide, by decide⟩ (fun r5 h6 => ?_)
    refine r_aload_n C dX6_holdsHere_14 rfl ?_
    refine r_getI0 C dX6_holdsHere_15 fg_X6_84 (by decide) ?_
    refine r_icmp_ne C 25 dX6_holdsHere_18 (by decide) ?_ ?_
    · refine r_iconst C (0 : Int32) dX6_holdsHere_25 (by decide) ?_
      exact r_zret C dX6_holdsHere_26 (show narrow .boolean (.int (0 : Int32)) = .int (0 : Int32) from rfl) rfl rfl (show narrow .boolean (.int (0 : Int32)) = .int (0 : Int32) from rfl)
    · refine r_iconst C (1 : Int32) dX6_holdsHere_21 (by decide) ?_
      refine r_goto C 26 dX6_holdsHere_22 (by decide) ?_
      exact r_zret C dX6_holdsHere_26 (show narrow .boolean (.int (1 : Int32)) = .int (1 : Int32) from rfl) rfl rfl (show narrow .boolean (.int (1 : Int32)) = .int (1 : Int32) from rfl)
theorem c_p_Pools_holdsHere (l : Launch) (ω : Wd) (ad : Nat → Nat → Nat) (N : Nat → Nat) (σ : St) (a1 : Nat) (b1 : a1 < N 2) : ∀ r : Int32, p_Pools_holdsHere σ a1 = some r → Ct l yX6_holdsHere cX6_holdsHere 3 (some .boolean) ({ frames := 1, cells := 0, slots := 0, locals := 22 } : Room) LC ω ad N [.ref (ω.2.1 2), .ref (ad 2 a1)] σ (some (.int r)) σ (narrow .boolean (.int r) = .int r) :=
  ct_of (o := fun r : Int32 => (some (.int r))) (s' := fun r => σ) (P := fun r => narrow .boolean (.int r) = .int r) [some (.ref (ω.2.1 2)), some (.ref (ad 2 a1)), none] (by decide) rfl (Nat.le_of_ble_eq_true rfl) (fun Γ C _ _ => w_p_Pools_holdsHere (Γ, ω, 3, ad, N, 0, 0) σ a1 b1 C)
theorem vw_X6_holdsHere : VW yX6_holdsHere cX6_holdsHere 3 (some .boolean) 1 := ⟨⟨(in_wt 82 (by decide +kernel) (by decide +kernel)), (in_wt 808 (by decide +kernel) (by decide +kernel)), by decide +kernel⟩, (in_wt 807 (by decide +kernel) (by decide +kernel)), (in_wt 6 (by decide +kernel) (by decide +kernel))⟩
theorem fg_X6_93 : FG LC RX6 93 0 1 3 (0, 0) := ⟨_, _, _, _, _, rfl, rfl, rfl, by decide, uw_X3, (in_wt 131 (by decide +kernel) (by decide +kernel))⟩
theorem fp_X6_90 : FP LC RX6 90 0 2 6 (0, 0) .int := ⟨_, _, _, _, _, tyX6, rfl, rfl, rfl, by decide, uw_X6, (in_wt 188 (by decide +kernel) (by decide +kernel)), tyX6_ok, nmX6, rfl, by decide +kernel⟩
theorem ml_X6_100 : Cond.methodLink RX6 100 yX6_holdsHere ∈ wt := in_wt 805 (by decide +kernel) (by decide +kernel)
theorem ml_X6_96 : Cond.methodLink RX6 96 yX3_personAt ∈ wt := in_wt 804 (by decide +kernel) (by decide +kernel)
/-- PostsEnd$Pools.private void gatherMembers() -/
def p_Pools_gatherMembers (σ : St) : Option St := (lt1 (sx σ 0 2 6 (0 : Int32)) fun σ1 => (Option.bind (itr0 (S := Int32 × St) (E := St) (fun s2 => (if s2.1 < s2.2.1 0 1 3 then (Option.bind (p_Firm_personAt s2.2 s2.1) fun r10 => (Option.bind (α := St) ((Option.elim r10 (some s2.2) fun q15 => (if s2.2.1 0 2 6 < (40 : Int32) then (Option.bind (p_Pools_holdsHere s2.2 q15) fun r17 => (if r17 = 0 then some s2.2 else (Option.bind (ix 40 (s2.2.1 0 2 6)) fun i19 => (lt1 (sy s2.2 0 17 i19 (some q15)) fun σ20 => (lt1 (sx σ20 0 2 6 ((σ20.1 0 2 6) + (1 : Int32))) fun σ21 => some σ21))))) else some s2.2))) fun t12 => some (.inl (s2.1 + (1 : Int32), t12)))) else some (.inr s2.2))) FU ((0 : Int32), σ1)) fun e7 => some e7))
set_option maxRecDepth 20000 in
set_option maxHeartbeats 4000000 in
theorem w_p_Pools_gatherMembers (Θ : TT) (σ : St)  (C : CX Θ cX6_gatherMembers RX6 none ({ frames := 2, cells := 0, slots := 0, locals := 44 } : Room) 3) : WA LC Θ (fun r : St => Qm LC Θ none r (True)) 0 [some (.ref (cF Θ 2)), none, none] [] σ (p_Pools_gatherMembers σ) := by
  unfold p_Pools_gatherMembers
  refine r_aload_n C dX6_gatherMembers_0 rfl ?_
  refine r_iconst C (0 : Int32) dX6_gatherMembers_1 (by decide) ?_
  refine r_putI0 C dX6_gatherMembers_2 fp_X6_90 (by decide) ?_
  refine WA.gen (fun σ1 => ?_)
  refine r_iconst C (0 : Int32) dX6_gatherMembers_5 (by decide) ?_
  refine r_istore_n C [some (.ref (cF Θ 2)), some (.int (0 : Int32)), none] dX6_gatherMembers_6 rfl (by decide) rfl ?_
  refine WA.join (α := St) 74 (fun e7 => [none, none, none]) (fun e7 => []) (fun e7 => e7) (fun e7 => True) (fun e7 h8 => ?_) (fun J9 => ?_)
  · exact r_vret C dX6_gatherMembers_74 rfl rfl trivial
  · refine WA.wk (lv' := [some (.ref (cF Θ 2)), some (.int (0 : Int32)), none]) [true, true, false] rfl ?_
    refine WA.itr (S := Int32 × St) 7 (fun s2 => [some (.ref (cF Θ 2)), some (.int s2.1), none]) (fun s2 => []) (fun s2 => s2.2) (fun s2 => True) (fun s2 k6 h3 ih4 hx5 => ?_) FU ((0 : Int32), σ1) trivial
    refine r_iload_n C dX6_gatherMembers_7 rfl ?_
    refine r_aload_n C dX6_gatherMembers_8 rfl ?_
    refine r_getF0 C dX6_gatherMembers_9 fg_X6_27 (by decide) ?_
    refine r_getI0 C dX6_gatherMembers_12 fg_X6_93 (by decide) ?_
    refine WA.bif ?_
    refine r_icmp_ge C 74 dX6_gatherMembers_15 (by decide) ?_ ?_
    · refine WA.wk (lv' := [none, none, none]) [false, false, false] rfl ?_
      exact WA.eqK (hx5 _) (J9 s2.2 trivial)
    · refine r_aload_n C dX6_gatherMembers_18 rfl ?_
      refine r_getF0 C dX6_gatherMembers_19 fg_X6_27 (by decide) ?_
      refine r_iload_n C dX6_gatherMembers_22 rfl ?_
      refine WA.asc ?_
      refine r_callV C (st := []) (As := [.int s2.1]) (d := 0) (j := 1) dX6_gatherMembers_23 ml_X6_96 vw_X3_personAt ⟨_, _, _, _, rfl, rfl⟩ (dm0 (by decide)) (fun r10 e => c_p_Firm_personAt Θ.1.2.1 (cW Θ) (cAd Θ) (cN Θ) s2.2 s2.1 r10 e) rfl rfl (Nat.le_of_ble_eq_true rfl) ⟨rfl, rfl, by decide, by decide⟩ (fun r10 h11 => ?_)
      refine r_astore_n C (x := Option.map (cAd Θ 2) r10) [some (.ref (cF Θ 2)), some (.int s2.1), some (va_rf (Option.map (cAd Θ 2) r10))] dX6_gatherMembers_26 rfl (by decide) rfl ?_
      refine r_aload_nQ C (x := Option.map (cAd Θ 2) r10) dX6_gatherMembers_27 rfl ?_
      refine WA.asc ?_
      refine WA.join (α := St) 68 (fun t12 => [some (.ref (cF Θ 2)), some (.int s2.1), none]) (fun t12 => []) (fun t12 => t12) (fun t12 => True) (fun t12 h13 => ?_) (fun J14 => ?_)
      · refine r_iinc C (1 : Int32) [some (.ref (cF Θ 2)), some (.int (s2.1 + (1 : Int32))), none] dX6_gatherMembers_68 (by decide) rfl rfl (by decide) rfl ?_
        refine r_goto C 7 dX6_gatherMembers_71 (by decide) ?_
        refine WA.wk (lv' := [some (.ref (cF Θ 2)), some (.int (s2.1 + (1 : Int32))), none]) [true, true, false] rfl ?_
        exact ih4 (s2.1 + (1 : Int32), t12) trivial
      · refine WA.bel ?_
        rcases r10 with _ | q15
        · refine r_ifnullN C 68 dX6_gatherMembers_28 (by decide) ?_
          refine WA.wk (lv' := [some (.ref (cF Θ 2)), some (.int s2.1), none]) [true, true, false] rfl ?_
          exact J14 s2.2 trivial
        · have h16 := h11 q15 rfl
          refine r_ifnullS C dX6_gatherMembers_28 ?_
          refine r_aload_n C dX6_gatherMembers_31 rfl ?_
          refine r_getI0 C dX6_gatherMembers_32 fg_X6_90 (by decide) ?_
          refine r_bipush C (40 : Int32) dX6_gatherMembers_35 (by decide) ?_
          refine WA.bif ?_
          refine r_icmp_ge C 68 dX6_gatherMembers_37 (by decide) ?_ ?_
          · refine WA.wk (lv' := [some (.ref (cF Θ 2)), some (.int s2.1), none]) [true, true, false] rfl ?_
            exact J14 s2.2 trivial
          · refine r_aload_n C dX6_gatherMembers_40 rfl ?_
            refine r_aload_n C dX6_gatherMembers_41 rfl ?_
            refine WA.asc ?_
            refine r_callV C (st := []) (As := [.ref (cAd Θ 2 q15)]) (d := 0) (j := 2) dX6_gatherMembers_42 ml_X6_100 vw_X6_holdsHere ⟨_, _, _, _, rfl, rfl⟩ (dm0 (by decide)) (fun r17 e => c_p_Pools_holdsHere Θ.1.2.1 (cW Θ) (cAd Θ) (cN Θ) s2.2 q15 h16 r17 e) rfl rfl (Nat.le_of_ble_eq_true rfl) ⟨rfl, rfl, by decide, by decide⟩ (fun r17 h18 => ?_)
            refine WA.bif ?_
            refine r_if_eq C 68 dX6_gatherMembers_45 (by decide) ?_ ?_
            · refine WA.wk (lv' := [some (.ref (cF Θ 2)), some (.int s2.1), none]) [true, true, false] rfl ?_
              exact J14 s2.2 trivial
            · refine r_aload_n C dX6_gatherMembers_48 rfl ?_
              refine r_getF0 C dX6_gatherMembers_49 fg_X6_23 (by decide) ?_
              refine r_aload_n C dX6_gatherMembers_52 rfl ?_
              refine r_getI0 C dX6_gatherMembers_53 fg_X6_90 (by decide) ?_
              refine r_aload_n C dX6_gatherMembers_56 rfl ?_
              refine WA.asc ?_
              refine r_aast C (x := (some q15)) dX6_gatherMembers_57 ag_LC_17 rfl rfl (fun _ => rfl) (by decide) (fun q e => (Option.some.inj e) ▸ h16) (fun i19 => ?_)
              refine WA.genB (fun σ20 => ?_)
              refine r_aload_n C dX6_gatherMembers_58 rfl ?_
              refine r_dup C dX6_gatherMembers_59 rfl ?_
              refine r_getI0 C dX6_gatherMembers_60 fg_X6_90 (by decide) ?_
              refine r_iconst C (1 : Int32) dX6_gatherMembers_63 (by decide) ?_
              refine r_iadd C dX6_gatherMembers_64 ?_
              refine r_putI0 C dX6_gatherMembers_65 fp_X6_90 (by decide) ?_
              refine WA.genB (fun σ21 => ?_)
              refine WA.wk (lv' := [some (.ref (cF Θ 2)), some (.int s2.1), none]) [true, true, false] rfl ?_
              exact J14 σ21 trivial
theorem c_p_Pools_gatherMembers (l : Launch) (ω : Wd) (ad : Nat → Nat → Nat) (N : Nat → Nat) (σ : St)  : ∀ r : St, p_Pools_gatherMembers σ = some r → Ct l yX6_gatherMembers cX6_gatherMembers 3 none ({ frames := 2, cells := 0, slots := 0, locals := 44 } : Room) LC ω ad N [.ref (ω.2.1 2)] σ none r (True) :=
  ct_of (o := fun r : St => none) (s' := fun r => r) (P := fun r => True) [some (.ref (ω.2.1 2)), none, none] (by decide) rfl (Nat.le_of_ble_eq_true rfl) (fun Γ C _ _ => w_p_Pools_gatherMembers (Γ, ω, 3, ad, N, 0, 0) σ  C)
theorem vw_X6_gatherMembers : VW yX6_gatherMembers cX6_gatherMembers 3 none 0 := ⟨⟨(in_wt 82 (by decide +kernel) (by decide +kernel)), (in_wt 803 (by decide +kernel) (by decide +kernel)), by decide +kernel⟩, (in_wt 802 (by decide +kernel) (by decide +kernel)), (in_wt 5 (by decide +kernel) (by decide +kernel))⟩
theorem vw_X6_join : VW yX6_join cX6_join 4 none 1 := ⟨⟨(in_wt 82 (by decide +kernel) (by decide +kernel)), (in_wt 751 (by decide +kernel) (by decide +kernel)), by decide +kernel⟩, (in_wt 749 (by decide +kernel) (by decide +kernel)), (in_wt 750 (by decide +kernel) (by decide +kernel))⟩
theorem fp_X6_84 : FP LC RX6 84 0 2 4 (0, 0) .int := ⟨_, _, _, _, _, tyX6, rfl, rfl, rfl, by decide, uw_X6, (in_wt 183 (by decide +kernel) (by decide +kernel)), tyX6_ok, nmX6, rfl, by decide +kernel⟩
theorem ml_X6_76 : Cond.methodLink RX6 76 yX3_isUnit ∈ wt := in_wt 798 (by decide +kernel) (by decide +kernel)
theorem ml_X6_80 : Cond.methodLink RX6 80 yX6_join ∈ wt := in_wt 799 (by decide +kernel) (by decide +kernel)
theorem ml_X6_87 : Cond.methodLink RX6 87 yX6_gatherMembers ∈ wt := in_wt 800 (by decide +kernel) (by decide +kernel)
/-- PostsEnd$Pools.boolean take(int, int) -/
def p_Pools_take (σ : St) (a1 : Int32) (a2 : Int32) : Option (Int32 × St) := (Option.bind (p_Firm_isUnit σ a1) fun r1 => (if r1 = 0 then some ((0 : Int32), σ) else (Option.bind (p_Pools_join σ a1) fun r3 => (if a2 < 0 then some ((0 : Int32), r3) else (if a2 < r3.1 0 2 5 then (lt1 (sx r3 0 2 4 a2) fun σ5 => (Option.bind (p_Pools_gatherMembers σ5) fun r6 => some ((1 : Int32), r6))) else some ((0 : Int32), r3))))))
set_option maxRecDepth 20000 in
set_option maxHeartbeats 4000000 in
theorem w_p_Pools_take (Θ : TT) (σ : St) (a1 : Int32) (a2 : Int32) (C : CX Θ cX6_take RX6 (some .boolean) ({ frames := 5, cells := 0, slots := 0, locals := 115 } : Room) 3) : WA LC Θ (fun r : Int32 × St => Qm LC Θ (some (.int r.1)) r.2 (narrow .boolean (.int r.1) = .int r.1)) 0 [some (.ref (cF Θ 2)), some (.int a1), some (.int a2)] [] σ (p_Pools_take σ a1 a2) := by
  unfold p_Pools_take
  refine r_aload_n C dX6_take_0 rfl ?_
  refine r_getF0 C dX6_take_1 fg_X6_27 (by decide) ?_
  refine r_iload_n C dX6_take_4 rfl ?_
  refine r_callV C (st := []) (As := [.int a1]) (d := 0) (j := 1) dX6_take_5 ml_X6_76 vw_X3_isUnit ⟨_, _, _, _, rfl, rfl⟩ (dm0 (by decide)) (fun r1 e => c_p_Firm_isUnit Θ.1.2.1 (cW Θ) (cAd Θ) (cN Θ) σ a1 r1 e) rfl rfl (Nat.le_of_ble_eq_true rfl) ⟨rfl, rfl, by decide, by decide⟩ (fun r1 h2 => ?_)
  refine r_if_ne C 13 dX6_take_8 (by decide) ?_ ?_
  · refine r_aload_n C dX6_take_13 rfl ?_
    refine r_iload_n C dX6_take_14 rfl ?_
    refine r_callV C (st := []) (As := [.int a1]) (d := 0) (j := 2) dX6_take_15 ml_X6_80 vw_X6_join ⟨_, _, _, _, rfl, rfl⟩ (dm0 (by decide)) (fun r3 e => c_p_Pools_join Θ.1.2.1 (cW Θ) (cAd Θ) (cN Θ) σ a1 r3 e) rfl rfl (Nat.le_of_ble_eq_true rfl) ⟨rfl, rfl, by decide, by decide⟩ (fun r3 h4 => ?_)
    refine r_iload_n C dX6_take_18 rfl ?_
    refine r_if_lt C 30 dX6_take_19 (by decide) ?_ ?_
    · refine r_iconst C (0 : Int32) dX6_take_30 (by decide) ?_
      exact r_zret C dX6_take_31 (show narrow .boolean (.int (0 : Int32)) = .int (0 : Int32) from rfl) rfl rfl (show narrow .boolean (.int (0 : Int32)) = .int (0 : Int32) from rfl)
    · refine r_iload_n C dX6_take_22 rfl ?_
      refine r_aload_n C dX6_take_23 rfl ?_
      refine r_getI0 C dX6_take_24 fg_X6_37 (by decide) ?_
      refine r_icmp_lt C 32 dX6_take_27 (by decide) ?_ ?_
      · refine r_aload_n C dX6_take_32 rfl ?_
        refine r_iload_n C dX6_take_33 rfl ?_
        refine r_putI0 C dX6_take_34 fp_X6_84 (by decide) ?_
        refine WA.gen (fun σ5 => ?_)
        refine r_aload_n C dX6_take_37 rfl ?_
        refine r_callV C (st := []) (As := []) (d := 0) (j := 2) dX6_take_38 ml_X6_87 vw_X6_gatherMembers ⟨_, _, _, _, rfl, rfl⟩ (dm0 (by decide)) (fun r6 e => c_p_Pools_gatherMembers Θ.1.2.1 (cW Θ) (cAd Θ) (cN Θ) σ5 r6 e) rfl rfl (Nat.le_of_ble_eq_true rfl) ⟨rfl, rfl, by decide, by decide⟩ (fun r6 h7 => ?_)
        refine r_iconst C (1 : Int32) dX6_take_41 (by decide) ?_
        exact r_zret C dX6_take_42 (show narrow .boolean (.int (1 : Int32)) = .int (1 : Int32) from rfl) rfl rfl (show narrow .boolean (.int (1 : Int32)) = .int (1 : Int32) from rfl)
      · refine r_iconst C (0 : Int32) dX6_take_30 (by decide) ?_
        exact r_zret C dX6_take_31 (show narrow .boolean (.int (0 : Int32)) = .int (0 : Int32) from rfl) rfl rfl (show narrow .boolean (.int (0 : Int32)) = .int (0 : Int32) from rfl)
  · refine r_iconst C (0 : Int32) dX6_take_11 (by decide) ?_
    exact r_zret C dX6_take_12 (show narrow .boolean (.int (0 : Int32)) = .int (0 : Int32) from rfl) rfl rfl (show narrow .boolean (.int (0 : Int32)) = .int (0 : Int32) from rfl)
theorem c_p_Pools_take (l : Launch) (ω : Wd) (ad : Nat → Nat → Nat) (N : Nat → Nat) (σ : St) (a1 : Int32) (a2 : Int32) : ∀ r : Int32 × St, p_Pools_take σ a1 a2 = some r → Ct l yX6_take cX6_take 3 (some .boolean) ({ frames := 5, cells := 0, slots := 0, locals := 115 } : Room) LC ω ad N [.ref (ω.2.1 2), .int a1, .int a2] σ (some (.int r.1)) r.2 (narrow .boolean (.int r.1) = .int r.1) :=
  ct_of (o := fun r : Int32 × St => (some (.int r.1))) (s' := fun r => r.2) (P := fun r => narrow .boolean (.int r.1) = .int r.1) [some (.ref (ω.2.1 2)), some (.int a1), some (.int a2)] (by decide) rfl (Nat.le_of_ble_eq_true rfl) (fun Γ C _ _ => w_p_Pools_take (Γ, ω, 3, ad, N, 0, 0) σ a1 a2 C)
theorem ml_X6_108 : Cond.methodLink RX6 108 yX6_memberAt ∈ wt := in_wt 909 (by decide +kernel) (by decide +kernel)
/-- PostsEnd$Pools.int placeOf(PostsEnd$Person) -/
def p_Pools_placeOf (σ : St) (a1 : Nat) : Option Int32 := (Option.bind (itr0 (S := Int32) (E := ((Unit) ⊕ (Int32))) (fun s1 => (if s1 < σ.1 0 2 6 then (Option.bind (p_Pools_memberAt σ s1) fun r9 => (if r9 = (some a1) then some (.inr (.inr s1)) else some (.inl (s1 + (1 : Int32))))) else some (.inr (.inl ())))) FU (0 : Int32)) (Sum.elim (fun e6 => some (-1 : Int32)) some))
set_option maxRecDepth 20000 in
set_option maxHeartbeats 4000000 in
theorem w_p_Pools_placeOf (Θ : TT) (σ : St) (a1 : Nat) (b1 : a1 < cN Θ 2) (C : CX Θ cX6_placeOf RX6 (some .int) ({ frames := 1, cells := 0, slots := 0, locals := 21 } : Room) 3) : WA LC Θ (fun r : Int32 => Qm LC Θ (some (.int r)) σ (True)) 0 [some (.ref (cF Θ 2)), some (.ref (cAd Θ 2 a1)), none] [] σ (p_Pools_placeOf σ a1) := by
  unfold p_Pools_placeOf
  refine r_iconst C (0 : Int32) dX6_placeOf_0 (by decide) ?_
  refine r_istore_n C [some (.ref (cF Θ 2)), some (.ref (cAd Θ 2 a1)), some (.int (0 : Int32))] dX6_placeOf_1 rfl (by decide) rfl ?_
  refine WA.joinL (α := Unit) 27 (fun e6 => [none, none, none]) (fun e6 => []) (fun e6 => σ) (fun e6 => True) (fun e6 h7 => ?_) (fun J8 => ?_)
  · refine WA.sml ?_
    refine r_iconst C (-1 : Int32) dX6_placeOf_27 (by decide) ?_
    exact r_iret C dX6_placeOf_28 rfl rfl trivial
  · refine WA.wk (lv' := [some (.ref (cF Θ 2)), some (.ref (cAd Θ 2 a1)), some (.int (0 : Int32))]) [true, true, true] rfl ?_
    refine WA.itr (S := Int32) 2 (fun s1 => [some (.ref (cF Θ 2)), some (.ref (cAd Θ 2 a1)), some (.int s1)]) (fun s1 => []) (fun s1 => σ) (fun s1 => True) (fun s1 k5 h2 ih3 hx4 => ?_) FU (0 : Int32) trivial
    refine r_iload_n C dX6_placeOf_2 rfl ?_
    refine r_aload_n C dX6_placeOf_3 rfl ?_
    refine r_getI0 C dX6_placeOf_4 fg_X6_90 (by decide) ?_
    refine WA.bif ?_
    refine r_icmp_ge C 27 dX6_placeOf_7 (by decide) ?_ ?_
    · refine WA.wk (lv' := [none, none, none]) [false, false, false] rfl ?_
      exact WA.eqK (hx4 _) (J8 () trivial)
    · refine r_aload_n C dX6_placeOf_10 rfl ?_
      refine r_iload_n C dX6_placeOf_11 rfl ?_
      refine WA.asc ?_
      refine r_callV C (st := []) (As := [.int s1]) (d := 0) (j := 2) dX6_placeOf_12 ml_X6_108 vw_X6_memberAt ⟨_, _, _, _, rfl, rfl⟩ (dm0 (by decide)) (fun r9 e => c_p_Pools_memberAt Θ.1.2.1 (cW Θ) (cAd Θ) (cN Θ) σ s1 r9 e) rfl rfl (Nat.le_of_ble_eq_true rfl) ⟨rfl, rfl, by decide, by decide⟩ (fun r9 h10 => ?_)
      refine r_aload_n C dX6_placeOf_15 rfl ?_
      refine WA.bif ?_
      refine r_acmp_ne C 21 1 r9 (some a1) dX6_placeOf_16 (by decide) (by decide) h10 (fun q e => (Option.some.inj e) ▸ b1) ?_ ?_
      · refine r_iinc C (1 : Int32) [some (.ref (cF Θ 2)), some (.ref (cAd Θ 2 a1)), some (.int (s1 + (1 : Int32)))] dX6_placeOf_21 (by decide) rfl rfl (by decide) rfl ?_
        refine r_goto C 2 dX6_placeOf_24 (by decide) ?_
        refine WA.wk (lv' := [some (.ref (cF Θ 2)), some (.ref (cAd Θ 2 a1)), some (.int (s1 + (1 : Int32)))]) [true, true, true] rfl ?_
        exact ih3 (s1 + (1 : Int32)) trivial
      · refine r_iload_n C dX6_placeOf_19 rfl ?_
        refine WA.eqK (hx4 _) ?_
        exact r_iret C dX6_placeOf_20 rfl rfl trivial
theorem c_p_Pools_placeOf (l : Launch) (ω : Wd) (ad : Nat → Nat → Nat) (N : Nat → Nat) (σ : St) (a1 : Nat) (b1 : a1 < N 2) : ∀ r : Int32, p_Pools_placeOf σ a1 = some r → Ct l yX6_placeOf cX6_placeOf 3 (some .int) ({ frames := 1, cells := 0, slots := 0, locals := 21 } : Room) LC ω ad N [.ref (ω.2.1 2), .ref (ad 2 a1)] σ (some (.int r)) σ (True) :=
  ct_of (o := fun r : Int32 => (some (.int r))) (s' := fun r => σ) (P := fun r => True) [some (.ref (ω.2.1 2)), some (.ref (ad 2 a1)), none] (by decide) rfl (Nat.le_of_ble_eq_true rfl) (fun Γ C _ _ => w_p_Pools_placeOf (Γ, ω, 3, ad, N, 0, 0) σ a1 b1 C)
theorem fp_X7_7 (j : Nat) : FP LC RX7 7 1 j 6 (0, 0) .int := ⟨_, _, _, _, _, tyX7, rfl, rfl, rfl, by decide, uw_X7, (in_wt 457 (by decide +kernel) (by decide +kernel)), tyX7_ok, nmX7, rfl, by decide +kernel⟩
theorem fpi_X7_13 (j : Nat) : FPi LC RX7 13 1 j 0 (0, 0) .int := ⟨_, _, _, _, _, tyX7, rfl, rfl, rfl, by decide, uw_X7, (in_wt 438 (by decide +kernel) (by decide +kernel)), tyX7_ok, nmX7, rfl, rfl, by decide +kernel⟩
theorem fpi_X7_16 (j : Nat) : FPi LC RX7 16 1 j 1 (0, 0) .int := ⟨_, _, _, _, _, tyX7, rfl, rfl, rfl, by decide, uw_X7, (in_wt 443 (by decide +kernel) (by decide +kernel)), tyX7_ok, nmX7, rfl, rfl, by decide +kernel⟩
theorem fpi_X7_19 (j : Nat) : FPi LC RX7 19 1 j 2 (0, 0) .int := ⟨_, _, _, _, _, tyX7, rfl, rfl, rfl, by decide, uw_X7, (in_wt 445 (by decide +kernel) (by decide +kernel)), tyX7_ok, nmX7, rfl, rfl, by decide +kernel⟩
theorem fpi_X7_22 (j : Nat) : FPi LC RX7 22 1 j 3 (0, 0) .int := ⟨_, _, _, _, _, tyX7, rfl, rfl, rfl, by decide, uw_X7, (in_wt 448 (by decide +kernel) (by decide +kernel)), tyX7_ok, nmX7, rfl, rfl, by decide +kernel⟩
theorem fpi_X7_25 (j : Nat) : FPi LC RX7 25 1 j 4 (0, 0) .int := ⟨_, _, _, _, _, tyX7, rfl, rfl, rfl, by decide, uw_X7, (in_wt 451 (by decide +kernel) (by decide +kernel)), tyX7_ok, nmX7, rfl, rfl, by decide +kernel⟩
theorem fpi_X7_28 (j : Nat) : FPi LC RX7 28 1 j 5 (0, 0) .int := ⟨_, _, _, _, _, tyX7, rfl, rfl, rfl, by decide, uw_X7, (in_wt 453 (by decide +kernel) (by decide +kernel)), tyX7_ok, nmX7, rfl, rfl, by decide +kernel⟩
theorem oi_X7_1 : Cond.methodLink RX7 1 Lib.objectInit ∈ wt ∧ Cond.instanceMethod Lib.objectInit ∈ wt ∧ Cond.code Lib.objectInit ⟨#[0xb1]⟩ 1 none ∈ wt := ⟨(in_wt 437 (by decide +kernel) (by decide +kernel)), (in_wt 103 (by decide +kernel) (by decide +kernel)), (in_wt 104 (by decide +kernel) (by decide +kernel))⟩
/-- PostsEnd$Post.PostsEnd$Post(int, int, int, int, int, int) -/
def p_Post_init (σ : St) (a0 : Nat) (a1 : Int32) (a2 : Int32) (a3 : Int32) (a4 : Int32) (a5 : Int32) (a6 : Int32) : Option St := (lt1 (sx σ 1 a0 6 (-1 : Int32)) fun σ1 => (lt1 (sx σ1 1 a0 0 a1) fun σ2 => (lt1 (sx σ2 1 a0 1 a2) fun σ3 => (lt1 (sx σ3 1 a0 2 a3) fun σ4 => (lt1 (sx σ4 1 a0 3 a4) fun σ5 => (lt1 (sx σ5 1 a0 4 a5) fun σ6 => (lt1 (sx σ6 1 a0 5 a6) fun σ7 => some σ7)))))))
set_option maxRecDepth 20000 in
set_option maxHeartbeats 4000000 in
theorem w_p_Post_init (Θ : TT) (σ : St) (a0 : Nat) (a1 : Int32) (a2 : Int32) (a3 : Int32) (a4 : Int32) (a5 : Int32) (a6 : Int32) (b0 : a0 < cN Θ 1) (hnm : Θ.1.2.2.2.2.2.2.2.2.1.name = "<init>") (C : CX Θ cX7_init RX7 none ({ frames := 1, cells := 0, slots := 0, locals := 12 } : Room) 7) : WA LC Θ (fun r : St => Qm LC Θ none r (True)) 0 [some (.ref (cAd Θ 1 a0)), some (.int a1), some (.int a2), some (.int a3), some (.int a4), some (.int a5), some (.int a6)] [] σ (p_Post_init σ a0 a1 a2 a3 a4 a5 a6) := by
  unfold p_Post_init
  refine r_aload_n C dX7_init_0 rfl ?_
  refine r_objInit C dX7_init_1 oi_X7_1 (by decide) (Nat.le_of_ble_eq_true rfl) ?_
  refine r_aload_n C dX7_init_4 rfl ?_
  refine r_iconst C (-1 : Int32) dX7_init_5 (by decide) ?_
  refine r_putI C dX7_init_6 (fp_X7_7 _) (by decide) b0 ?_
  refine WA.gen (fun σ1 => ?_)
  refine r_aload_n C dX7_init_9 rfl ?_
  refine r_iload_n C dX7_init_10 rfl ?_
  refine r_putFI C hnm dX7_init_11 (fpi_X7_13 _) (by decide) b0 ?_
  refine WA.gen (fun σ2 => ?_)
  refine r_aload_n C dX7_init_14 rfl ?_
  refine r_iload_n C dX7_init_15 rfl ?_
  refine r_putFI C hnm dX7_init_16 (fpi_X7_16 _) (by decide) b0 ?_
  refine WA.gen (fun σ3 => ?_)
  refine r_aload_n C dX7_init_19 rfl ?_
  refine r_iload_n C dX7_init_20 rfl ?_
  refine r_putFI C hnm dX7_init_21 (fpi_X7_19 _) (by decide) b0 ?_
  refine WA.gen (fun σ4 => ?_)
  refine r_aload_n C dX7_init_24 rfl ?_
  refine r_iload C dX7_init_25 rfl ?_
  refine r_putFI C hnm dX7_init_27 (fpi_X7_22 _) (by decide) b0 ?_
  refine WA.gen (fun σ5 => ?_)
  refine r_aload_n C dX7_init_30 rfl ?_
  refine r_iload C dX7_init_31 rfl ?_
  refine r_putFI C hnm dX7_init_33 (fpi_X7_25 _) (by decide) b0 ?_
  refine WA.gen (fun σ6 => ?_)
  refine r_aload_n C dX7_init_36 rfl ?_
  refine r_iload C dX7_init_37 rfl ?_
  refine r_putFI C hnm dX7_init_39 (fpi_X7_28 _) (by decide) b0 ?_
  refine WA.gen (fun σ7 => ?_)
  exact r_vret C dX7_init_42 rfl rfl trivial
theorem c_p_Post_init (l : Launch) (ω : Wd) (ad : Nat → Nat → Nat) (N : Nat → Nat) (σ : St) (a0 : Nat) (a1 : Int32) (a2 : Int32) (a3 : Int32) (a4 : Int32) (a5 : Int32) (a6 : Int32) (b0 : a0 < N 1) : ∀ r : St, p_Post_init σ a0 a1 a2 a3 a4 a5 a6 = some r → Ct l yX7_init cX7_init 7 none ({ frames := 1, cells := 0, slots := 0, locals := 12 } : Room) LC ω ad N [.ref (ad 1 a0), .int a1, .int a2, .int a3, .int a4, .int a5, .int a6] σ none r (True) :=
  ct_of (o := fun r : St => none) (s' := fun r => r) (P := fun r => True) [some (.ref (ad 1 a0)), some (.int a1), some (.int a2), some (.int a3), some (.int a4), some (.int a5), some (.int a6)] (by decide) rfl (Nat.le_of_ble_eq_true rfl) (fun Γ C _ hn => w_p_Post_init (Γ, ω, 7, ad, N, 0, 0) σ a0 a1 a2 a3 a4 a5 a6 b0 hn C)
/-- PostsEnd$Post.boolean mayBeHeldBy(PostsEnd$Person) -/
def p_Post_mayBeHeldBy (σ : St) (a0 : Nat) (a1 : Nat) : Option Int32 := (Option.bind (p_Post_isOpen σ a0) fun r1 => (if r1 = 0 then some (0 : Int32) else (lt1 (σ.2 1 a0 7) fun x3 => (Option.elim x3 (some (1 : Int32)) fun q5 => (lt1 (σ.2 1 a0 7) fun x7 => (if x7 = (some a1) then some (1 : Int32) else some (0 : Int32)))))))
set_option maxRecDepth 20000 in
set_option maxHeartbeats 4000000 in
theorem w_p_Post_mayBeHeldBy (Θ : TT) (σ : St) (a0 : Nat) (a1 : Nat) (b0 : a0 < cN Θ 1) (b1 : a1 < cN Θ 2) (C : CX Θ cX7_mayBeHeldBy RX7 (some .boolean) ({ frames := 1, cells := 0, slots := 0, locals := 20 } : Room) 2) : WA LC Θ (fun r : Int32 => Qm LC Θ (some (.int r)) σ (narrow .boolean (.int r) = .int r)) 0 [some (.ref (cAd Θ 1 a0)), some (.ref (cAd Θ 2 a1))] [] σ (p_Post_mayBeHeldBy σ a0 a1) := by
  unfold p_Post_mayBeHeldBy
  refine r_aload_n C dX7_mayBeHeldBy_0 rfl ?_
  refine r_callV C (st := []) (As := []) (d := 1) (j := a0) dX7_mayBeHeldBy_1 ml_X7_31 vw_X7_isOpen ⟨_, _, _, _, rfl, rfl⟩ (dmk (by decide) (by decide) b0) (fun r1 e => c_p_Post_isOpen Θ.1.2.1 (cW Θ) (cAd Θ) (cN Θ) σ a0 b0 r1 e) rfl rfl (Nat.le_of_ble_eq_true rfl) ⟨rfl, rfl, by decide, by decide⟩ (fun r1 h2 => ?_)
  refine r_if_eq C 26 dX7_mayBeHeldBy_4 (by decide) ?_ ?_
  · refine r_iconst C (0 : Int32) dX7_mayBeHeldBy_26 (by decide) ?_
    exact r_zret C dX7_mayBeHeldBy_27 (show narrow .boolean (.int (0 : Int32)) = .int (0 : Int32) from rfl) rfl rfl (show narrow .boolean (.int (0 : Int32)) = .int (0 : Int32) from rfl)
  · refine r_aload_n C dX7_mayBeHeldBy_7 rfl ?_
    refine r_getQ C dX7_mayBeHeldBy_8 (fg_X7_35 _) (by decide) b0 (fun x3 h4 => ?_)
    rcases x3 with _ | q5
    · refine r_ifnullN C 22 dX7_mayBeHeldBy_11 (by decide) ?_
      refine r_iconst C (1 : Int32) dX7_mayBeHeldBy_22 (by decide) ?_
      refine r_goto C 27 dX7_mayBeHeldBy_23 (by decide) ?_
      exact r_zret C dX7_mayBeHeldBy_27 (show narrow .boolean (.int (1 : Int32)) = .int (1 : Int32) from rfl) rfl rfl (show narrow .boolean (.int (1 : Int32)) = .int (1 : Int32) from rfl)
    · have h6 := h4 q5 rfl
      refine r_ifnullS C dX7_mayBeHeldBy_11 ?_
      refine r_aload_n C dX7_mayBeHeldBy_14 rfl ?_
      refine r_getQ C dX7_mayBeHeldBy_15 (fg_X7_35 _) (by decide) b0 (fun x7 h8 => ?_)
      refine r_aload_n C dX7_mayBeHeldBy_18 rfl ?_
      refine r_acmp_ne C 26 1 x7 (some a1) dX7_mayBeHeldBy_19 (by decide) (by decide) h8 (fun q e => (Option.some.inj e) ▸ b1) ?_ ?_
      · refine r_iconst C (0 : Int32) dX7_mayBeHeldBy_26 (by decide) ?_
        exact r_zret C dX7_mayBeHeldBy_27 (show narrow .boolean (.int (0 : Int32)) = .int (0 : Int32) from rfl) rfl rfl (show narrow .boolean (.int (0 : Int32)) = .int (0 : Int32) from rfl)
      · refine r_iconst C (1 : Int32) dX7_mayBeHeldBy_22 (by decide) ?_
        refine r_goto C 27 dX7_mayBeHeldBy_23 (by decide) ?_
        exact r_zret C dX7_mayBeHeldBy_27 (show narrow .boolean (.int (1 : Int32)) = .int (1 : Int32) from rfl) rfl rfl (show narrow .boolean (.int (1 : Int32)) = .int (1 : Int32) from rfl)
theorem c_p_Post_mayBeHeldBy (l : Launch) (ω : Wd) (ad : Nat → Nat → Nat) (N : Nat → Nat) (σ : St) (a0 : Nat) (a1 : Nat) (b0 : a0 < N 1) (b1 : a1 < N 2) : ∀ r : Int32, p_Post_mayBeHeldBy σ a0 a1 = some r → Ct l yX7_mayBeHeldBy cX7_mayBeHeldBy 2 (some .boolean) ({ frames := 1, cells := 0, slots := 0, locals := 20 } : Room) LC ω ad N [.ref (ad 1 a0), .ref (ad 2 a1)] σ (some (.int r)) σ (narrow .boolean (.int r) = .int r) :=
  ct_of (o := fun r : Int32 => (some (.int r))) (s' := fun r => σ) (P := fun r => narrow .boolean (.int r) = .int r) [some (.ref (ad 1 a0)), some (.ref (ad 2 a1))] (by decide) rfl (Nat.le_of_ble_eq_true rfl) (fun Γ C _ _ => w_p_Post_mayBeHeldBy (Γ, ω, 2, ad, N, 0, 0) σ a0 a1 b0 b1 C)
theorem vw_X5_hold : VW yX5_hold cX5_hold 3 none 1 := ⟨⟨(in_wt 90 (by decide +kernel) (by decide +kernel)), (in_wt 501 (by decide +kernel) (by decide +kernel)), by decide +kernel⟩, (in_wt 499 (by decide +kernel) (by decide +kernel)), (in_wt 500 (by decide +kernel) (by decide +kernel))⟩
theorem ml_X7_39 : Cond.methodLink RX7 39 yX5_hold ∈ wt := in_wt 498 (by decide +kernel) (by decide +kernel)
/-- PostsEnd$Post.void finish(int) -/
def p_Post_finish (σ : St) (a0 : Nat) (a1 : Int32) : Option St := (lt1 (σ.2 1 a0 7) fun x1 => (Option.bind (α := St) ((Option.elim x1 (some σ) fun q7 => (Option.bind (p_Person_hold σ q7 none) fun r9 => some r9))) fun t3 => (lt1 (sx t3 1 a0 6 a1) fun σ6 => some σ6)))
set_option maxRecDepth 20000 in
set_option maxHeartbeats 4000000 in
theorem w_p_Post_finish (Θ : TT) (σ : St) (a0 : Nat) (a1 : Int32) (b0 : a0 < cN Θ 1) (C : CX Θ cX7_finish RX7 none ({ frames := 1, cells := 0, slots := 0, locals := 22 } : Room) 3) : WA LC Θ (fun r : St => Qm LC Θ none r (True)) 0 [some (.ref (cAd Θ 1 a0)), some (.int a1), none] [] σ (p_Post_finish σ a0 a1) := by
  unfold p_Post_finish
  refine r_aload_n C dX7_finish_0 rfl ?_
  refine r_getQ C dX7_finish_1 (fg_X7_35 _) (by decide) b0 (fun x1 h2 => ?_)
  refine r_astore_n C (x := Option.map (cAd Θ 2) x1) [some (.ref (cAd Θ 1 a0)), some (.int a1), some (va_rf (Option.map (cAd Θ 2) x1))] dX7_finish_4 rfl (by decide) rfl ?_
  refine r_aload_nQ C (x := Option.map (cAd Θ 2) x1) dX7_finish_5 rfl ?_
  refine WA.join (α := St) 14 (fun t3 => [some (.ref (cAd Θ 1 a0)), some (.int a1), none]) (fun t3 => []) (fun t3 => t3) (fun t3 => True) (fun t3 h4 => ?_) (fun J5 => ?_)
  · refine r_aload_n C dX7_finish_14 rfl ?_
    refine r_iload_n C dX7_finish_15 rfl ?_
    refine r_putI C dX7_finish_16 (fp_X7_7 _) (by decide) b0 ?_
    refine WA.gen (fun σ6 => ?_)
    exact r_vret C dX7_finish_19 rfl rfl trivial
  · refine WA.bel ?_
    rcases x1 with _ | q7
    · refine r_ifnullN C 14 dX7_finish_6 (by decide) ?_
      refine WA.wk (lv' := [some (.ref (cAd Θ 1 a0)), some (.int a1), none]) [true, true, false] rfl ?_
      exact J5 σ trivial
    · have h8 := h2 q7 rfl
      refine r_ifnullS C dX7_finish_6 ?_
      refine r_aload_n C dX7_finish_9 rfl ?_
      refine r_null C dX7_finish_10 ?_
      refine WA.asc ?_
      refine r_callV C (st := []) (As := [.null]) (d := 2) (j := q7) dX7_finish_11 ml_X7_39 vw_X5_hold ⟨_, _, _, _, rfl, rfl⟩ (dmk (by decide) (by decide) h8) (fun r9 e => c_p_Person_hold Θ.1.2.1 (cW Θ) (cAd Θ) (cN Θ) σ q7 none h8 (fun q e => nomatch e) r9 e) rfl rfl (Nat.le_of_ble_eq_true rfl) ⟨rfl, rfl, by decide, by decide⟩ (fun r9 h10 => ?_)
      refine WA.wk (lv' := [some (.ref (cAd Θ 1 a0)), some (.int a1), none]) [true, true, false] rfl ?_
      exact J5 r9 trivial
theorem c_p_Post_finish (l : Launch) (ω : Wd) (ad : Nat → Nat → Nat) (N : Nat → Nat) (σ : St) (a0 : Nat) (a1 : Int32) (b0 : a0 < N 1) : ∀ r : St, p_Post_finish σ a0 a1 = some r → Ct l yX7_finish cX7_finish 3 none ({ frames := 1, cells := 0, slots := 0, locals := 22 } : Room) LC ω ad N [.ref (ad 1 a0), .int a1] σ none r (True) :=
  ct_of (o := fun r : St => none) (s' := fun r => r) (P := fun r => True) [some (.ref (ad 1 a0)), some (.int a1), none] (by decide) rfl (Nat.le_of_ble_eq_true rfl) (fun Γ C _ _ => w_p_Post_finish (Γ, ω, 3, ad, N, 0, 0) σ a0 a1 b0 C)
theorem ag_LC_18 : AG LC 18 3 40 := ⟨by decide, rfl⟩
theorem ag_LC_19 : AG LC 19 0 40 := ⟨by decide, rfl⟩
theorem fg_X8_11 : FG LC RX8 11 0 3 1 (1, 18) := ⟨_, _, _, _, _, rfl, rfl, rfl, by decide, uw_X8, (in_wt 213 (by decide +kernel) (by decide +kernel))⟩
theorem fg_X8_17 : FG LC RX8 17 0 3 2 (1, 19) := ⟨_, _, _, _, _, rfl, rfl, rfl, by decide, uw_X8, (in_wt 214 (by decide +kernel) (by decide +kernel))⟩
theorem fg_X8_27 : FG LC RX8 27 0 3 0 (1, 1) := ⟨_, _, _, _, _, rfl, rfl, rfl, by decide, uw_X8, (in_wt 212 (by decide +kernel) (by decide +kernel))⟩
theorem fg_X8_31 : FG LC RX8 31 0 3 5 (0, 0) := ⟨_, _, _, _, _, rfl, rfl, rfl, by decide, uw_X8, (in_wt 217 (by decide +kernel) (by decide +kernel))⟩
theorem fg_X8_35 : FG LC RX8 35 0 2 6 (0, 0) := ⟨_, _, _, _, _, rfl, rfl, rfl, by decide, uw_X6, (in_wt 187 (by decide +kernel) (by decide +kernel))⟩
theorem fg_X8_50 : FG LC RX8 50 0 1 0 (0, 0) := ⟨_, _, _, _, _, rfl, rfl, rfl, by decide, uw_X3, (in_wt 118 (by decide +kernel) (by decide +kernel))⟩
theorem fp_X8_31 : FP LC RX8 31 0 3 5 (0, 0) .int := ⟨_, _, _, _, _, tyX8, rfl, rfl, rfl, by decide, uw_X8, (in_wt 217 (by decide +kernel) (by decide +kernel)), tyX8_ok, nmX8, rfl, by decide +kernel⟩
theorem ml_X8_40 : Cond.methodLink RX8 40 yX6_memberAt ∈ wt := in_wt 816 (by decide +kernel) (by decide +kernel)
theorem ml_X8_44 : Cond.methodLink RX8 44 yX3_isProtected ∈ wt := in_wt 820 (by decide +kernel) (by decide +kernel)
theorem ml_X8_53 : Cond.methodLink RX8 53 yX3_markAsOf ∈ wt := in_wt 824 (by decide +kernel) (by decide +kernel)
/-- PostsEnd$Ranks.void gather(PostsEnd$Pools) -/
def p_Ranks_gather (σ : St) : Option St := (lt1 (sx σ 0 3 5 (0 : Int32)) fun σ1 => (Option.bind (itr0 (S := Int32 × St) (E := St) (fun s2 => (if s2.1 < s2.2.1 0 2 6 then (Option.bind (p_Pools_memberAt s2.2 s2.1) fun r10 => (Option.bind (α := St) ((Option.elim r10 (some s2.2) fun q15 => (if s2.2.1 0 3 5 < (40 : Int32) then (Option.bind (p_Firm_isProtected s2.2 q15) fun r17 => (if r17 = 0 then (Option.bind (ix 40 (s2.2.1 0 3 5)) fun i19 => (lt1 (sy s2.2 0 18 i19 (some q15)) fun σ20 => (Option.bind (p_Firm_markAsOf σ20 q15 (σ20.1 0 1 0)) fun r21 => (Option.bind (ix 40 (σ20.1 0 3 5)) fun i23 => (lt1 (sx σ20 0 19 i23 r21) fun σ24 => (lt1 (sx σ24 0 3 5 ((σ24.1 0 3 5) + (1 : Int32))) fun σ25 => some σ25)))))) else some s2.2)) else some s2.2))) fun t12 => some (.inl (s2.1 + (1 : Int32), t12)))) else some (.inr s2.2))) FU ((0 : Int32), σ1)) fun e7 => some e7))
set_option maxRecDepth 20000 in
set_option maxHeartbeats 4000000 in
theorem w_p_Ranks_gather (Θ : TT) (σ : St)  (C : CX Θ cX8_gather RX8 none ({ frames := 4, cells := 0, slots := 0, locals := 93 } : Room) 4) : WA LC Θ (fun r : St => Qm LC Θ none r (True)) 0 [some (.ref (cF Θ 3)), some (.ref (cF Θ 2)), none, none] [] σ (p_Ranks_gather σ) := by
  unfold p_Ranks_gather
  refine r_aload_n C dX8_gather_0 rfl ?_
  refine r_iconst C (0 : Int32) dX8_gather_1 (by decide) ?_
  refine r_putI0 C dX8_gather_2 fp_X8_31 (by decide) ?_
  refine WA.gen (fun σ1 => ?_)
  refine r_iconst C (0 : Int32) dX8_gather_5 (by decide) ?_
  refine r_istore_n C [some (.ref (cF Θ 3)), some (.ref (cF Θ 2)), some (.int (0 : Int32)), none] dX8_gather_6 rfl (by decide) rfl ?_
  refine WA.join (α := St) 95 (fun e7 => [none, none, none, none]) (fun e7 => []) (fun e7 => e7) (fun e7 => True) (fun e7 h8 => ?_) (fun J9 => ?_)
  · exact r_vret C dX8_gather_95 rfl rfl trivial
  · refine WA.wk (lv' := [some (.ref (cF Θ 3)), some (.ref (cF Θ 2)), some (.int (0 : Int32)), none]) [true, true, true, false] rfl ?_
    refine WA.itr (S := Int32 × St) 7 (fun s2 => [some (.ref (cF Θ 3)), some (.ref (cF Θ 2)), some (.int s2.1), none]) (fun s2 => []) (fun s2 => s2.2) (fun s2 => True) (fun s2 k6 h3 ih4 hx5 => ?_) FU ((0 : Int32), σ1) trivial
    refine r_iload_n C dX8_gather_7 rfl ?_
    refine r_aload_n C dX8_gather_8 rfl ?_
    refine r_getI0 C dX8_gather_9 fg_X8_35 (by decide) ?_
    refine WA.bif ?_
    refine r_icmp_ge C 95 dX8_gather_12 (by decide) ?_ ?_
    · refine WA.wk (lv' := [none, none, none, none]) [false, false, false, false] rfl ?_
      exact WA.eqK (hx5 _) (J9 s2.2 trivial)
    · refine r_aload_n C dX8_gather_15 rfl ?_
      refine r_iload_n C dX8_gather_16 rfl ?_
      refine WA.asc ?_
      refine r_callV C (st := []) (As := [.int s2.1]) (d := 0) (j := 2) dX8_gather_17 ml_X8_40 vw_X6_memberAt ⟨_, _, _, _, rfl, rfl⟩ (dm0 (by decide)) (fun r10 e => c_p_Pools_memberAt Θ.1.2.1 (cW Θ) (cAd Θ) (cN Θ) s2.2 s2.1 r10 e) rfl rfl (Nat.le_of_ble_eq_true rfl) ⟨rfl, rfl, by decide, by decide⟩ (fun r10 h11 => ?_)
      refine r_astore_n C (x := Option.map (cAd Θ 2) r10) [some (.ref (cF Θ 3)), some (.ref (cF Θ 2)), some (.int s2.1), some (va_rf (Option.map (cAd Θ 2) r10))] dX8_gather_20 rfl (by decide) rfl ?_
      refine r_aload_nQ C (x := Option.map (cAd Θ 2) r10) dX8_gather_21 rfl ?_
      refine WA.asc ?_
      refine WA.join (α := St) 89 (fun t12 => [some (.ref (cF Θ 3)), some (.ref (cF Θ 2)), some (.int s2.1), none]) (fun t12 => []) (fun t12 => t12) (fun t12 => True) (fun t12 h13 => ?_) (fun J14 => ?_)
      · refine r_iinc C (1 : Int32) [some (.ref (cF Θ 3)), some (.ref (cF Θ 2)), some (.int (s2.1 + (1 : Int32))), none] dX8_gather_89 (by decide) rfl rfl (by decide) rfl ?_
        refine r_goto C 7 dX8_gather_92 (by decide) ?_
        refine WA.wk (lv' := [some (.ref (cF Θ 3)), some (.ref (cF Θ 2)), some (.int (s2.1 + (1 : Int32))), none]) [true, true, true, false] rfl ?_
        exact ih4 (s2.1 + (1 : Int32), t12) trivial
      · refine WA.bel ?_
        rcases r10 with _ | q15
        · refine r_ifnullN C 89 dX8_gather_22 (by decide) ?_
          refine WA.wk (lv' := [some (.ref (cF Θ 3)), some (.ref (cF Θ 2)), some (.int s2.1), none]) [true, true, true, false] rfl ?_
          exact J14 s2.2 trivial
        · have h16 := h11 q15 rfl
          refine r_ifnullS C dX8_gather_22 ?_
          refine r_aload_n C dX8_gather_25 rfl ?_
          refine r_getI0 C dX8_gather_26 fg_X8_31 (by decide) ?_
          refine r_bipush C (40 : Int32) dX8_gather_29 (by decide) ?_
          refine WA.bif ?_
          refine r_icmp_ge C 89 dX8_gather_31 (by decide) ?_ ?_
          · refine WA.wk (lv' := [some (.ref (cF Θ 3)), some (.ref (cF Θ 2)), some (.int s2.1), none]) [true, true, true, false] rfl ?_
            exact J14 s2.2 trivial
          · refine r_aload_n C dX8_gather_34 rfl ?_
            refine r_getF0 C dX8_gather_35 fg_X8_27 (by decide) ?_
            refine r_aload_n C dX8_gather_38 rfl ?_
            refine WA.asc ?_
            refine r_callV C (st := []) (As := [.ref (cAd Θ 2 q15)]) (d := 0) (j := 1) dX8_gather_39 ml_X8_44 vw_X3_isProtected ⟨_, _, _, _, rfl, rfl⟩ (dm0 (by decide)) (fun r17 e => c_p_Firm_isProtected Θ.1.2.1 (cW Θ) (cAd Θ) (cN Θ) s2.2 q15 h16 r17 e) rfl rfl (Nat.le_of_ble_eq_true rfl) ⟨rfl, rfl, by decide, by decide⟩ (fun r17 h18 => ?_)
            refine WA.bif ?_
            refine r_if_ne C 89 dX8_gather_42 (by decide) ?_ ?_
            · refine WA.wk (lv' := [some (.ref (cF Θ 3)), some (.ref (cF Θ 2)), some (.int s2.1), none]) [true, true, true, false] rfl ?_
              exact J14 s2.2 trivial
            · refine r_aload_n C dX8_gather_45 rfl ?_
              refine r_getF0 C dX8_gather_46 fg_X8_11 (by decide) ?_
              refine r_aload_n C dX8_gather_49 rfl ?_
              refine r_getI0 C dX8_gather_50 fg_X8_31 (by decide) ?_
              refine r_aload_n C dX8_gather_53 rfl ?_
              refine WA.asc ?_
              refine r_aast C (x := (some q15)) dX8_gather_54 ag_LC_18 rfl rfl (fun _ => rfl) (by decide) (fun q e => (Option.some.inj e) ▸ h16) (fun i19 => ?_)
              refine WA.genB (fun σ20 => ?_)
              refine r_aload_n C dX8_gather_55 rfl ?_
              refine r_getF0 C dX8_gather_56 fg_X8_17 (by decide) ?_
              refine r_aload_n C dX8_gather_59 rfl ?_
              refine r_getI0 C dX8_gather_60 fg_X8_31 (by decide) ?_
              refine r_aload_n C dX8_gather_63 rfl ?_
              refine r_getF0 C dX8_gather_64 fg_X8_27 (by decide) ?_
              refine r_aload_n C dX8_gather_67 rfl ?_
              refine r_aload_n C dX8_gather_68 rfl ?_
              refine r_getF0 C dX8_gather_69 fg_X8_27 (by decide) ?_
              refine r_getI0 C dX8_gather_72 fg_X8_50 (by decide) ?_
              refine WA.asc ?_
              refine r_callV C (st := [.int (σ20.1 0 3 5), .ref (cF Θ 19)]) (As := [.ref (cAd Θ 2 q15), .int (σ20.1 0 1 0)]) (d := 0) (j := 1) dX8_gather_75 ml_X8_53 vw_X3_markAsOf ⟨_, _, _, _, rfl, rfl⟩ (dm0 (by decide)) (fun r21 e => c_p_Firm_markAsOf Θ.1.2.1 (cW Θ) (cAd Θ) (cN Θ) σ20 q15 (σ20.1 0 1 0) h16 r21 e) rfl rfl (Nat.le_of_ble_eq_true rfl) ⟨rfl, rfl, by decide, by decide⟩ (fun r21 h22 => ?_)
              refine WA.asc ?_
              refine r_iast C dX8_gather_78 ag_LC_19 (fun i23 => ?_)
              refine WA.genB (fun σ24 => ?_)
              refine r_aload_n C dX8_gather_79 rfl ?_
              refine r_dup C dX8_gather_80 rfl ?_
              refine r_getI0 C dX8_gather_81 fg_X8_31 (by decide) ?_
              refine r_iconst C (1 : Int32) dX8_gather_84 (by decide) ?_
              refine r_iadd C dX8_gather_85 ?_
              refine r_putI0 C dX8_gather_86 fp_X8_31 (by decide) ?_
              refine WA.genB (fun σ25 => ?_)
              refine WA.wk (lv' := [some (.ref (cF Θ 3)), some (.ref (cF Θ 2)), some (.int s2.1), none]) [true, true, true, false] rfl ?_
              exact J14 σ25 trivial
theorem c_p_Ranks_gather (l : Launch) (ω : Wd) (ad : Nat → Nat → Nat) (N : Nat → Nat) (σ : St)  : ∀ r : St, p_Ranks_gather σ = some r → Ct l yX8_gather cX8_gather 4 none ({ frames := 4, cells := 0, slots := 0, locals := 93 } : Room) LC ω ad N [.ref (ω.2.1 3), .ref (ω.2.1 2)] σ none r (True) :=
  ct_of (o := fun r : St => none) (s' := fun r => r) (P := fun r => True) [some (.ref (ω.2.1 3)), some (.ref (ω.2.1 2)), none, none] (by decide) rfl (Nat.le_of_ble_eq_true rfl) (fun Γ C _ _ => w_p_Ranks_gather (Γ, ω, 4, ad, N, 0, 0) σ  C)
