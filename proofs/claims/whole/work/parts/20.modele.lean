theorem ag_LM_33 : AG LM 33 0 41 := ⟨by decide, rfl⟩
theorem ag_LM_35 : AG LM 35 0 41 := ⟨by decide, rfl⟩
theorem fg_X12_113 : FG LM RX12 113 0 0 48 (1, 33) := ⟨_, _, _, _, _, rfl, rfl, rfl, by decide, uw_X12, (in_wt 1282 (by decide +kernel) (by decide +kernel))⟩
theorem fg_X12_119 : FG LM RX12 119 0 0 50 (1, 35) := ⟨_, _, _, _, _, rfl, rfl, rfl, by decide, uw_X12, (in_wt 1284 (by decide +kernel) (by decide +kernel))⟩
theorem fg_X12_304 : FG LM RX12 304 0 0 51 (0, 0) := ⟨_, _, _, _, _, rfl, rfl, rfl, by decide, uw_X12, (in_wt 1285 (by decide +kernel) (by decide +kernel))⟩
/-- PostsEndModel.private boolean isMoved(int) -/
def m_isMoved (σ : St) (a1 : Int32) : Option Int32 := (Option.bind (itr0 (S := Int32) (E := ((Unit) ⊕ (Int32))) (fun s1 => (if s1 < σ.1 0 0 51 then (Option.bind (ix 41 s1) fun i9 => (if σ.1 0 33 i9 = a1 then some (.inr (.inr (1 : Int32))) else (Option.bind (ix 41 s1) fun i10 => (if σ.1 0 35 i10 = a1 then some (.inr (.inr (1 : Int32))) else some (.inl (s1 + (1 : Int32))))))) else some (.inr (.inl ())))) FU (0 : Int32)) (Sum.elim (fun e6 => some (0 : Int32)) some))
set_option maxRecDepth 20000 in
set_option maxHeartbeats 4000000 in
theorem w_m_isMoved (Θ : TT) (σ : St) (a1 : Int32) (C : CX Θ cX12_isMoved RX12 (some .boolean) ({ frames := 0, cells := 0, slots := 0, locals := 0 } : Room) 3) : WA LM Θ (fun r : Int32 => Qm LM Θ (some (.int r)) σ (narrow .boolean (.int r) = .int r)) 0 [some (.ref (cF Θ 0)), some (.int a1), none] [] σ (m_isMoved σ a1) := by
  unfold m_isMoved
  refine r_iconst C (0 : Int32) dX12_isMoved_0 (by decide) ?_
  refine r_istore_n C [some (.ref (cF Θ 0)), some (.int a1), some (.int (0 : Int32))] dX12_isMoved_1 rfl (by decide) rfl ?_
  refine WA.joinL (α := Unit) 38 (fun e6 => [none, none, none]) (fun e6 => []) (fun e6 => σ) (fun e6 => True) (fun e6 h7 => ?_) (fun J8 => ?_)
  · refine WA.sml ?_
    refine r_iconst C (0 : Int32) dX12_isMoved_38 (by decide) ?_
    exact r_zret C dX12_isMoved_39 (show narrow .boolean (.int (0 : Int32)) = .int (0 : Int32) from rfl) rfl rfl (show narrow .boolean (.int (0 : Int32)) = .int (0 : Int32) from rfl)
  · refine WA.wk (lv' := [some (.ref (cF Θ 0)), some (.int a1), some (.int (0 : Int32))]) [true, true, true] rfl ?_
    refine WA.itr (S := Int32) 2 (fun s1 => [some (.ref (cF Θ 0)), some (.int a1), some (.int s1)]) (fun s1 => []) (fun s1 => σ) (fun s1 => True) (fun s1 k5 h2 ih3 hx4 => ?_) FU (0 : Int32) trivial
    refine r_iload_n C dX12_isMoved_2 rfl ?_
    refine r_aload_n C dX12_isMoved_3 rfl ?_
    refine r_getI0 C dX12_isMoved_4 fg_X12_304 (by decide) ?_
    refine WA.bif ?_
    refine r_icmp_ge C 38 dX12_isMoved_7 (by decide) ?_ ?_
    · refine WA.wk (lv' := [none, none, none]) [false, false, false] rfl ?_
      exact WA.eqK (hx4 _) (J8 () trivial)
    · refine r_aload_n C dX12_isMoved_10 rfl ?_
      refine r_getF0 C dX12_isMoved_11 fg_X12_113 (by decide) ?_
      refine r_iload_n C dX12_isMoved_14 rfl ?_
      refine WA.asc ?_
      refine r_iald (α := Unit) C dX12_isMoved_15 ag_LM_33 (fun i9 => ?_)
      refine r_iload_n C dX12_isMoved_16 rfl ?_
      refine WA.bif ?_
      refine r_icmp_eq C 30 dX12_isMoved_17 (by decide) ?_ ?_
      · refine r_iconst C (1 : Int32) dX12_isMoved_30 (by decide) ?_
        refine WA.eqK (hx4 _) ?_
        exact r_zret C dX12_isMoved_31 (show narrow .boolean (.int (1 : Int32)) = .int (1 : Int32) from rfl) rfl rfl (show narrow .boolean (.int (1 : Int32)) = .int (1 : Int32) from rfl)
      · refine r_aload_n C dX12_isMoved_20 rfl ?_
        refine r_getF0 C dX12_isMoved_21 fg_X12_119 (by decide) ?_
        refine r_iload_n C dX12_isMoved_24 rfl ?_
        refine WA.asc ?_
        refine r_iald (α := Unit) C dX12_isMoved_25 ag_LM_35 (fun i10 => ?_)
        refine r_iload_n C dX12_isMoved_26 rfl ?_
        refine WA.bif ?_
        refine r_icmp_ne C 32 dX12_isMoved_27 (by decide) ?_ ?_
        · refine r_iinc C (1 : Int32) [some (.ref (cF Θ 0)), some (.int a1), some (.int (s1 + (1 : Int32)))] dX12_isMoved_32 (by decide) rfl rfl (by decide) rfl ?_
          refine r_goto C 2 dX12_isMoved_35 (by decide) ?_
          refine WA.wk (lv' := [some (.ref (cF Θ 0)), some (.int a1), some (.int (s1 + (1 : Int32)))]) [true, true, true] rfl ?_
          exact ih3 (s1 + (1 : Int32)) trivial
        · refine r_iconst C (1 : Int32) dX12_isMoved_30 (by decide) ?_
          refine WA.eqK (hx4 _) ?_
          exact r_zret C dX12_isMoved_31 (show narrow .boolean (.int (1 : Int32)) = .int (1 : Int32) from rfl) rfl rfl (show narrow .boolean (.int (1 : Int32)) = .int (1 : Int32) from rfl)
theorem c_m_isMoved (l : Launch) (ω : Wd) (ad : Nat → Nat → Nat) (N : Nat → Nat) (σ : St) (a1 : Int32) : ∀ r : Int32, m_isMoved σ a1 = some r → Ct l yX12_isMoved cX12_isMoved 3 (some .boolean) ({ frames := 0, cells := 0, slots := 0, locals := 0 } : Room) LM ω ad N [.ref (ω.2.1 0), .int a1] σ (some (.int r)) σ (narrow .boolean (.int r) = .int r) :=
  ct_of (o := fun r : Int32 => (some (.int r))) (s' := fun r => σ) (P := fun r => narrow .boolean (.int r) = .int r) [some (.ref (ω.2.1 0)), some (.int a1), none] (by decide) rfl (Nat.le_of_ble_eq_true rfl) (fun Γ C _ _ => w_m_isMoved (Γ, ω, 3, ad, N, 0, 0) σ a1 C)
theorem vw_X12_isMoved : VW yX12_isMoved cX12_isMoved 3 (some .boolean) 1 := ⟨⟨(in_wt 88 (by decide +kernel) (by decide +kernel)), (in_wt 1656 (by decide +kernel) (by decide +kernel)), by decide +kernel⟩, (in_wt 1655 (by decide +kernel) (by decide +kernel)), (in_wt 71 (by decide +kernel) (by decide +kernel))⟩
theorem ml_X12_301 : Cond.methodLink RX12 301 yX12_isMoved ∈ wt := in_wt 1653 (by decide +kernel) (by decide +kernel)
/-- PostsEndModel.private int takes(int, int) -/
def m_takes (σ : St) (a1 : Int32) (a2 : Int32) : Option Int32 := (Option.bind (ix 40 a1) fun i1 => (Option.bind (ix 40 (σ.1 0 12 i1)) fun i2 => (Option.bind (itr0 (S := Int32 × Int32) (E := Int32) (fun s3 => (if s3.2 < σ.1 0 0 11 then (Option.bind (α := Int32) ((if s3.2 = a1 then some (0 : Int32) else (if s3.2 = a2 then some (0 : Int32) else (Option.bind (m_isHere σ s3.2) fun r51 => (if r51 = 0 then some (0 : Int32) else (Option.bind (ix 40 s3.2) fun i53 => (if σ.1 0 12 i53 < 0 then some (0 : Int32) else (Option.bind (m_isGuarded σ s3.2) fun r54 => (if r54 = 0 then (Option.bind (m_isMoved σ s3.2) fun r56 => (if r56 = 0 then some (1 : Int32) else some (0 : Int32))) else some (0 : Int32)))))))))) fun t11 => (Option.bind (α := Int32) ((if t11 = 0 then some s3.1 else (Option.bind (ix 40 s3.2) fun i17 => (Option.bind (ix 40 (σ.1 0 12 i17)) fun i18 => (Option.bind (ix 40 a1) fun i19 => (Option.bind (ix 40 (σ.1 0 12 i19)) fun i20 => (Option.bind (α := Int32) ((if σ.1 0 4 i18 = σ.1 0 4 i20 then (Option.bind (ix 40 (σ.1 0 12 i17)) fun i42 => (Option.bind (m_in ((σ.1 0 5 i2) - (σ.1 0 5 i42)) (0 : Int32) (2 : Int32)) fun r43 => (if r43 = 0 then some (0 : Int32) else (Option.bind (m_markOf σ s3.2 (σ.1 0 0 0)) fun r45 => (Option.bind (m_markOf σ a1 (σ.1 0 0 0)) fun r47 => (if r45 < r47 then (Option.bind (m_skillFor σ a1 (σ.1 0 12 i17)) fun r49 => (if r49 < (50 : Int32) then some (0 : Int32) else some (1 : Int32))) else some (0 : Int32))))))) else some (0 : Int32))) fun t21 => (if t21 = 0 then some s3.1 else (Option.bind (α := Int32) ((if s3.1 < 0 then some (-1 : Int32) else (Option.bind (ix 40 s3.1) fun i41 => some (σ.1 0 12 i41)))) fun t24 => (Option.bind (α := Int32) ((if s3.1 < 0 then some (1 : Int32) else (Option.bind (ix 40 (σ.1 0 12 i17)) fun i33 => (Option.bind (ix 40 t24) fun i34 => (if σ.1 0 5 i34 < σ.1 0 5 i33 then some (1 : Int32) else (Option.bind (ix 40 (σ.1 0 12 i17)) fun i35 => (Option.bind (ix 40 t24) fun i36 => (if σ.1 0 5 i35 = σ.1 0 5 i36 then (Option.bind (m_markOf σ s3.2 (σ.1 0 0 0)) fun r37 => (Option.bind (m_markOf σ s3.1 (σ.1 0 0 0)) fun r39 => (if r37 < r39 then some (1 : Int32) else some (0 : Int32)))) else some (0 : Int32))))))))) fun t27 => (Option.bind (α := Int32) ((if t27 = 0 then some s3.1 else some s3.2)) fun t30 => some t30))))))))))) fun t14 => some (.inl (t14, s3.2 + (1 : Int32))))) else some (.inr s3.1))) FU ((-1 : Int32), (0 : Int32))) fun e8 => some e8)))
set_option maxRecDepth 20000 in
set_option maxHeartbeats 4000000 in
theorem w_m_takes (Θ : TT) (σ : St) (a1 : Int32) (a2 : Int32) (C : CX Θ cX12_takes RX12 (some .int) ({ frames := 4, cells := 0, slots := 0, locals := 92 } : Room) 11) : WA LM Θ (fun r : Int32 => Qm LM Θ (some (.int r)) σ (True)) 0 [some (.ref (cF Θ 0)), some (.int a1), some (.int a2), none, none, none, none, none, none, none, none] [] σ (m_takes σ a1 a2) := by
  unfold m_takes
  refine r_iconst C (-1 : Int32) dX12_takes_0 (by decide) ?_
  refine r_istore_n C [some (.ref (cF Θ 0)), some (.int a1), some (.int a2), some (.int (-1 : Int32)), none, none, none, none, none, none, none] dX12_takes_1 rfl (by decide) rfl ?_
  refine r_aload_n C dX12_takes_2 rfl ?_
  refine r_getF0 C dX12_takes_3 fg_X12_22 (by decide) ?_
  refine r_aload_n C dX12_takes_6 rfl ?_
  refine r_getF0 C dX12_takes_7 fg_X12_43 (by decide) ?_
  refine r_iload_n C dX12_takes_10 rfl ?_
  refine r_iald (α := Unit) C dX12_takes_11 ag_LM_12 (fun i1 => ?_)
  refine r_iald (α := Unit) C dX12_takes_12 ag_LM_5 (fun i2 => ?_)
  refine r_istore C [some (.ref (cF Θ 0)), some (.int a1), some (.int a2), some (.int (-1 : Int32)), some (.int (σ.1 0 5 i2)), none, none, none, none, none, none] dX12_takes_13 rfl (by decide) rfl ?_
  refine r_iconst C (0 : Int32) dX12_takes_15 (by decide) ?_
  refine r_istore C [some (.ref (cF Θ 0)), some (.int a1), some (.int a2), some (.int (-1 : Int32)), some (.int (σ.1 0 5 i2)), some (.int (0 : Int32)), none, none, none, none, none] dX12_takes_16 rfl (by decide) rfl ?_
  refine WA.join (α := Int32) 286 (fun e8 => [none, none, none, some (.int e8), none, none, none, none, none, none, none]) (fun e8 => []) (fun e8 => σ) (fun e8 => True) (fun e8 h9 => ?_) (fun J10 => ?_)
  · refine r_iload_n C dX12_takes_286 rfl ?_
    exact r_iret C dX12_takes_287 rfl rfl trivial
  · refine WA.wk (lv' := [some (.ref (cF Θ 0)), some (.int a1), some (.int a2), some (.int (-1 : Int32)), some (.int (σ.1 0 5 i2)), some (.int (0 : Int32)), none, none, none, none, none]) [true, true, true, true, true, true, false, false, false, false, false] rfl ?_
    refine WA.itr (S := Int32 × Int32) 18 (fun s3 => [some (.ref (cF Θ 0)), some (.int a1), some (.int a2), some (.int s3.1), some (.int (σ.1 0 5 i2)), some (.int s3.2), none, none, none, none, none]) (fun s3 => []) (fun s3 => σ) (fun s3 => True) (fun s3 k7 h4 ih5 hx6 => ?_) FU ((-1 : Int32), (0 : Int32)) trivial
    refine r_iload C dX12_takes_18 rfl ?_
    refine r_aload_n C dX12_takes_20 rfl ?_
    refine r_getI0 C dX12_takes_21 fg_X12_164 (by decide) ?_
    refine WA.bif ?_
    refine r_icmp_ge C 286 dX12_takes_24 (by decide) ?_ ?_
    · refine WA.wk (lv' := [none, none, none, some (.int s3.1), none, none, none, none, none, none, none]) [false, false, false, true, false, false, false, false, false, false, false] rfl ?_
      exact WA.eqK (hx6 _) (J10 s3.1 trivial)
    · refine r_iload C dX12_takes_27 rfl ?_
      refine r_iload_n C dX12_takes_29 rfl ?_
      refine WA.asc ?_
      refine WA.join (α := Int32) 81 (fun t11 => [some (.ref (cF Θ 0)), some (.int a1), some (.int a2), some (.int s3.1), some (.int (σ.1 0 5 i2)), some (.int s3.2), none, none, none, none, none]) (fun t11 => [.int t11]) (fun t11 => σ) (fun t11 => True) (fun t11 h12 => ?_) (fun J13 => ?_)
      · refine r_istore C [some (.ref (cF Θ 0)), some (.int a1), some (.int a2), some (.int s3.1), some (.int (σ.1 0 5 i2)), some (.int s3.2), some (.int t11), none, none, none, none] dX12_takes_81 rfl (by decide) rfl ?_
        refine r_iload C dX12_takes_83 rfl ?_
        refine WA.asc ?_
        refine WA.join (α := Int32) 280 (fun t14 => [some (.ref (cF Θ 0)), some (.int a1), some (.int a2), some (.int t14), some (.int (σ.1 0 5 i2)), some (.int s3.2), none, none, none, none, none]) (fun t14 => []) (fun t14 => σ) (fun t14 => True) (fun t14 h15 => ?_) (fun J16 => ?_)
        · refine r_iinc C (1 : Int32) [some (.ref (cF Θ 0)), some (.int a1), some (.int a2), some (.int t14), some (.int (σ.1 0 5 i2)), some (.int (s3.2 + (1 : Int32))), none, none, none, none, none] dX12_takes_280 (by decide) rfl rfl (by decide) rfl ?_
          refine r_goto C 18 dX12_takes_283 (by decide) ?_
          refine WA.wk (lv' := [some (.ref (cF Θ 0)), some (.int a1), some (.int a2), some (.int t14), some (.int (σ.1 0 5 i2)), some (.int (s3.2 + (1 : Int32))), none, none, none, none, none]) [true, true, true, true, true, true, false, false, false, false, false] rfl ?_
          exact ih5 (t14, s3.2 + (1 : Int32)) trivial
        · refine WA.bif ?_
          refine r_if_ne C 91 dX12_takes_85 (by decide) ?_ ?_
          · refine r_aload_n C dX12_takes_91 rfl ?_
            refine r_getF0 C dX12_takes_92 fg_X12_43 (by decide) ?_
            refine r_iload C dX12_takes_95 rfl ?_
            refine WA.asc ?_
            refine r_iald (α := Unit) C dX12_takes_97 ag_LM_12 (fun i17 => ?_)
            refine r_istore C [some (.ref (cF Θ 0)), some (.int a1), some (.int a2), some (.int s3.1), some (.int (σ.1 0 5 i2)), some (.int s3.2), some (.int t11), some (.int (σ.1 0 12 i17)), none, none, none] dX12_takes_98 rfl (by decide) rfl ?_
            refine r_aload_n C dX12_takes_100 rfl ?_
            refine r_getF0 C dX12_takes_101 fg_X12_19 (by decide) ?_
            refine r_iload C dX12_takes_104 rfl ?_
            refine WA.asc ?_
            refine r_iald (α := Unit) C dX12_takes_106 ag_LM_4 (fun i18 => ?_)
            refine r_aload_n C dX12_takes_107 rfl ?_
            refine r_getF0 C dX12_takes_108 fg_X12_19 (by decide) ?_
            refine r_aload_n C dX12_takes_111 rfl ?_
            refine r_getF0 C dX12_takes_112 fg_X12_43 (by decide) ?_
            refine r_iload_n C dX12_takes_115 rfl ?_
            refine WA.asc ?_
            refine r_iald (α := Unit) C dX12_takes_116 ag_LM_12 (fun i19 => ?_)
            refine WA.asc ?_
            refine r_iald (α := Unit) C dX12_takes_117 ag_LM_4 (fun i20 => ?_)
            refine WA.asc ?_
            refine WA.join (α := Int32) 178 (fun t21 => [some (.ref (cF Θ 0)), some (.int a1), some (.int a2), some (.int s3.1), some (.int (σ.1 0 5 i2)), some (.int s3.2), none, some (.int (σ.1 0 12 i17)), none, none, none]) (fun t21 => [.int t21]) (fun t21 => σ) (fun t21 => True) (fun t21 h22 => ?_) (fun J23 => ?_)
            · refine r_istore C [some (.ref (cF Θ 0)), some (.int a1), some (.int a2), some (.int s3.1), some (.int (σ.1 0 5 i2)), some (.int s3.2), none, some (.int (σ.1 0 12 i17)), some (.int t21), none, none] dX12_takes_178 rfl (by decide) rfl ?_
              refine r_iload C dX12_takes_180 rfl ?_
              refine WA.bif ?_
              refine r_if_eq C 280 dX12_takes_182 (by decide) ?_ ?_
              · refine WA.wk (lv' := [some (.ref (cF Θ 0)), some (.int a1), some (.int a2), some (.int s3.1), some (.int (σ.1 0 5 i2)), some (.int s3.2), none, none, none, none, none]) [true, true, true, true, true, true, false, false, false, false, false] rfl ?_
                exact J16 s3.1 trivial
              · refine r_iload_n C dX12_takes_185 rfl ?_
                refine WA.asc ?_
                refine WA.join (α := Int32) 199 (fun t24 => [some (.ref (cF Θ 0)), some (.int a1), some (.int a2), some (.int s3.1), some (.int (σ.1 0 5 i2)), some (.int s3.2), none, some (.int (σ.1 0 12 i17)), none, none, none]) (fun t24 => [.int t24]) (fun t24 => σ) (fun t24 => True) (fun t24 h25 => ?_) (fun J26 => ?_)
                · refine r_istore C [some (.ref (cF Θ 0)), some (.int a1), some (.int a2), some (.int s3.1), some (.int (σ.1 0 5 i2)), some (.int s3.2), none, some (.int (σ.1 0 12 i17)), none, some (.int t24), none] dX12_takes_199 rfl (by decide) rfl ?_
                  refine r_iload_n C dX12_takes_201 rfl ?_
                  refine WA.asc ?_
                  refine WA.join (α := Int32) 266 (fun t27 => [some (.ref (cF Θ 0)), some (.int a1), some (.int a2), some (.int s3.1), some (.int (σ.1 0 5 i2)), some (.int s3.2), none, none, none, none, none]) (fun t27 => [.int t27]) (fun t27 => σ) (fun t27 => True) (fun t27 h28 => ?_) (fun J29 => ?_)
                  · refine r_istore C [some (.ref (cF Θ 0)), some (.int a1), some (.int a2), some (.int s3.1), some (.int (σ.1 0 5 i2)), some (.int s3.2), none, none, none, none, some (.int t27)] dX12_takes_266 rfl (by decide) rfl ?_
                    refine r_iload C dX12_takes_268 rfl ?_
                    refine WA.asc ?_
                    refine WA.join (α := Int32) 279 (fun t30 => [some (.ref (cF Θ 0)), some (.int a1), some (.int a2), none, some (.int (σ.1 0 5 i2)), some (.int s3.2), none, none, none, none, none]) (fun t30 => [.int t30]) (fun t30 => σ) (fun t30 => True) (fun t30 h31 => ?_) (fun J32 => ?_)
                    · refine r_istore_n C [some (.ref (cF Θ 0)), some (.int a1), some (.int a2), some (.int t30), some (.int (σ.1 0 5 i2)), some (.int s3.2), none, none, none, none, none] dX12_takes_279 rfl (by decide) rfl ?_
                      refine WA.wk (lv' := [some (.ref (cF Θ 0)), some (.int a1), some (.int a2), some (.int t30), some (.int (σ.1 0 5 i2)), some (.int s3.2), none, none, none, none, none]) [true, true, true, true, true, true, false, false, false, false, false] rfl ?_
                      exact J16 t30 trivial
                    · refine WA.bif ?_
                      refine r_if_eq C 278 dX12_takes_270 (by decide) ?_ ?_
                      · refine r_iload_n C dX12_takes_278 rfl ?_
                        refine WA.wk (lv' := [some (.ref (cF Θ 0)), some (.int a1), some (.int a2), none, some (.int (σ.1 0 5 i2)), some (.int s3.2), none, none, none, none, none]) [true, true, true, false, true, true, false, false, false, false, false] rfl ?_
                        exact J32 s3.1 trivial
                      · refine r_iload C dX12_takes_273 rfl ?_
                        refine r_goto C 279 dX12_takes_275 (by decide) ?_
                        refine WA.wk (lv' := [some (.ref (cF Θ 0)), some (.int a1), some (.int a2), none, some (.int (σ.1 0 5 i2)), some (.int s3.2), none, none, none, none, none]) [true, true, true, false, true, true, false, false, false, false, false] rfl ?_
                        exact J32 s3.2 trivial
                  · refine WA.bif ?_
                    refine r_if_lt C 261 dX12_takes_202 (by decide) ?_ ?_
                    · refine r_iconst C (1 : Int32) dX12_takes_261 (by decide) ?_
                      refine r_goto C 266 dX12_takes_262 (by decide) ?_
                      refine WA.wk (lv' := [some (.ref (cF Θ 0)), some (.int a1), some (.int a2), some (.int s3.1), some (.int (σ.1 0 5 i2)), some (.int s3.2), none, none, none, none, none]) [true, true, true, true, true, true, false, false, false, false, false] rfl ?_
                      exact J29 (1 : Int32) trivial
                    · refine r_aload_n C dX12_takes_205 rfl ?_
                      refine r_getF0 C dX12_takes_206 fg_X12_22 (by decide) ?_
                      refine r_iload C dX12_takes_209 rfl ?_
                      refine WA.asc ?_
                      refine r_iald (α := Unit) C dX12_takes_211 ag_LM_5 (fun i33 => ?_)
                      refine r_aload_n C dX12_takes_212 rfl ?_
                      refine r_getF0 C dX12_takes_213 fg_X12_22 (by decide) ?_
                      refine r_iload C dX12_takes_216 rfl ?_
                      refine WA.asc ?_
                      refine r_iald (α := Unit) C dX12_takes_218 ag_LM_5 (fun i34 => ?_)
                      refine WA.bif ?_
                      refine r_icmp_gt C 261 dX12_takes_219 (by decide) ?_ ?_
                      · refine r_iconst C (1 : Int32) dX12_takes_261 (by decide) ?_
                        refine r_goto C 266 dX12_takes_262 (by decide) ?_
                        refine WA.wk (lv' := [some (.ref (cF Θ 0)), some (.int a1), some (.int a2), some (.int s3.1), some (.int (σ.1 0 5 i2)), some (.int s3.2), none, none, none, none, none]) [true, true, true, true, true, true, false, false, false, false, false] rfl ?_
                        exact J29 (1 : Int32) trivial
                      · refine r_aload_n C dX12_takes_222 rfl ?_
                        refine r_getF0 C dX12_takes_223 fg_X12_22 (by decide) ?_
                        refine r_iload C dX12_takes_226 rfl ?_
                        refine WA.asc ?_
                        refine r_iald (α := Unit) C dX12_takes_228 ag_LM_5 (fun i35 => ?_)
                        refine r_aload_n C dX12_takes_229 rfl ?_
                        refine r_getF0 C dX12_takes_230 fg_X12_22 (by decide) ?_
                        refine r_iload C dX12_takes_233 rfl ?_
                        refine WA.asc ?_
                        refine r_iald (α := Unit) C dX12_takes_235 ag_LM_5 (fun i36 => ?_)
                        refine WA.bif ?_
                        refine r_icmp_ne C 265 dX12_takes_236 (by decide) ?_ ?_
                        · refine r_iconst C (0 : Int32) dX12_takes_265 (by decide) ?_
                          refine WA.wk (lv' := [some (.ref (cF Θ 0)), some (.int a1), some (.int a2), some (.int s3.1), some (.int (σ.1 0 5 i2)), some (.int s3.2), none, none, none, none, none]) [true, true, true, true, true, true, false, false, false, false, false] rfl ?_
                          exact J29 (0 : Int32) trivial
                        · refine r_aload_n C dX12_takes_239 rfl ?_
                          refine r_iload C dX12_takes_240 rfl ?_
                          refine r_aload_n C dX12_takes_242 rfl ?_
                          refine r_getI0 C dX12_takes_243 fg_X12_167 (by decide) ?_
                          refine WA.asc ?_
                          refine r_callV C (st := []) (As := [.int s3.2, .int (σ.1 0 0 0)]) (d := 0) (j := 0) dX12_takes_246 ml_X12_233 vw_X12_markOf ⟨_, _, _, _, rfl, rfl⟩ (dm0 (by decide)) (fun r37 e => c_m_markOf Θ.1.2.1 (cW Θ) (cAd Θ) (cN Θ) σ s3.2 (σ.1 0 0 0) r37 e) rfl rfl (Nat.le_of_ble_eq_true rfl) ⟨rfl, rfl, by decide, by decide⟩ (fun r37 h38 => ?_)
                          refine r_aload_n C dX12_takes_249 rfl ?_
                          refine r_iload_n C dX12_takes_250 rfl ?_
                          refine r_aload_n C dX12_takes_251 rfl ?_
                          refine r_getI0 C dX12_takes_252 fg_X12_167 (by decide) ?_
                          refine WA.asc ?_
                          refine r_callV C (st := [.int r37]) (As := [.int s3.1, .int (σ.1 0 0 0)]) (d := 0) (j := 0) dX12_takes_255 ml_X12_233 vw_X12_markOf ⟨_, _, _, _, rfl, rfl⟩ (dm0 (by decide)) (fun r39 e => c_m_markOf Θ.1.2.1 (cW Θ) (cAd Θ) (cN Θ) σ s3.1 (σ.1 0 0 0) r39 e) rfl rfl (Nat.le_of_ble_eq_true rfl) ⟨rfl, rfl, by decide, by decide⟩ (fun r39 h40 => ?_)
                          refine WA.bif ?_
                          refine r_icmp_ge C 265 dX12_takes_258 (by decide) ?_ ?_
                          · refine r_iconst C (0 : Int32) dX12_takes_265 (by decide) ?_
                            refine WA.wk (lv' := [some (.ref (cF Θ 0)), some (.int a1), some (.int a2), some (.int s3.1), some (.int (σ.1 0 5 i2)), some (.int s3.2), none, none, none, none, none]) [true, true, true, true, true, true, false, false, false, false, false] rfl ?_
                            exact J29 (0 : Int32) trivial
                          · refine r_iconst C (1 : Int32) dX12_takes_261 (by decide) ?_
                            refine r_goto C 266 dX12_takes_262 (by decide) ?_
                            refine WA.wk (lv' := [some (.ref (cF Θ 0)), some (.int a1), some (.int a2), some (.int s3.1), some (.int (σ.1 0 5 i2)), some (.int s3.2), none, none, none, none, none]) [true, true, true, true, true, true, false, false, false, false, false] rfl ?_
                            exact J29 (1 : Int32) trivial
                · refine WA.bif ?_
                  refine r_if_ge C 193 dX12_takes_186 (by decide) ?_ ?_
                  · refine r_aload_n C dX12_takes_193 rfl ?_
                    refine r_getF0 C dX12_takes_194 fg_X12_43 (by decide) ?_
                    refine r_iload_n C dX12_takes_197 rfl ?_
                    refine WA.asc ?_
                    refine r_iald (α := Unit) C dX12_takes_198 ag_LM_12 (fun i41 => ?_)
                    refine WA.wk (lv' := [some (.ref (cF Θ 0)), some (.int a1), some (.int a2), some (.int s3.1), some (.int (σ.1 0 5 i2)), some (.int s3.2), none, some (.int (σ.1 0 12 i17)), none, none, none]) [true, true, true, true, true, true, false, true, false, false, false] rfl ?_
                    exact J26 (σ.1 0 12 i41) trivial
                  · refine r_iconst C (-1 : Int32) dX12_takes_189 (by decide) ?_
                    refine r_goto C 199 dX12_takes_190 (by decide) ?_
                    refine WA.wk (lv' := [some (.ref (cF Θ 0)), some (.int a1), some (.int a2), some (.int s3.1), some (.int (σ.1 0 5 i2)), some (.int s3.2), none, some (.int (σ.1 0 12 i17)), none, none, none]) [true, true, true, true, true, true, false, true, false, false, false] rfl ?_
                    exact J26 (-1 : Int32) trivial
            · refine WA.bif ?_
              refine r_icmp_ne C 177 dX12_takes_118 (by decide) ?_ ?_
              · refine r_iconst C (0 : Int32) dX12_takes_177 (by decide) ?_
                refine WA.wk (lv' := [some (.ref (cF Θ 0)), some (.int a1), some (.int a2), some (.int s3.1), some (.int (σ.1 0 5 i2)), some (.int s3.2), none, some (.int (σ.1 0 12 i17)), none, none, none]) [true, true, true, true, true, true, false, true, false, false, false] rfl ?_
                exact J23 (0 : Int32) trivial
              · refine r_iload C dX12_takes_121 rfl ?_
                refine r_aload_n C dX12_takes_123 rfl ?_
                refine r_getF0 C dX12_takes_124 fg_X12_22 (by decide) ?_
                refine r_iload C dX12_takes_127 rfl ?_
                refine WA.asc ?_
                refine r_iald (α := Unit) C dX12_takes_129 ag_LM_5 (fun i42 => ?_)
                refine r_isub C dX12_takes_130 ?_
                refine r_iconst C (0 : Int32) dX12_takes_131 (by decide) ?_
                refine r_iconst C (2 : Int32) dX12_takes_132 (by decide) ?_
                refine WA.asc ?_
                refine r_callS C (st := []) (As := [.int ((σ.1 0 5 i2) - (σ.1 0 5 i42)), .int (0 : Int32), .int (2 : Int32)]) dX12_takes_133 ml_X12_157 sw_X12_in (fun r43 e => c_m_in Θ.1.2.1 (cW Θ) (cAd Θ) (cN Θ) σ ((σ.1 0 5 i2) - (σ.1 0 5 i42)) (0 : Int32) (2 : Int32) r43 e) rfl rfl (Nat.le_of_ble_eq_true rfl) ⟨rfl, rfl, by decide, by decide⟩ (fun r43 h44 => ?_)
                refine WA.bif ?_
                refine r_if_eq C 177 dX12_takes_136 (by decide) ?_ ?_
                · refine r_iconst C (0 : Int32) dX12_takes_177 (by decide) ?_
                  refine WA.wk (lv' := [some (.ref (cF Θ 0)), some (.int a1), some (.int a2), some (.int s3.1), some (.int (σ.1 0 5 i2)), some (.int s3.2), none, some (.int (σ.1 0 12 i17)), none, none, none]) [true, true, true, true, true, true, false, true, false, false, false] rfl ?_
                  exact J23 (0 : Int32) trivial
                · refine r_aload_n C dX12_takes_139 rfl ?_
                  refine r_iload C dX12_takes_140 rfl ?_
                  refine r_aload_n C dX12_takes_142 rfl ?_
                  refine r_getI0 C dX12_takes_143 fg_X12_167 (by decide) ?_
                  refine WA.asc ?_
                  refine r_callV C (st := []) (As := [.int s3.2, .int (σ.1 0 0 0)]) (d := 0) (j := 0) dX12_takes_146 ml_X12_233 vw_X12_markOf ⟨_, _, _, _, rfl, rfl⟩ (dm0 (by decide)) (fun r45 e => c_m_markOf Θ.1.2.1 (cW Θ) (cAd Θ) (cN Θ) σ s3.2 (σ.1 0 0 0) r45 e) rfl rfl (Nat.le_of_ble_eq_true rfl) ⟨rfl, rfl, by decide, by decide⟩ (fun r45 h46 => ?_)
                  refine r_aload_n C dX12_takes_149 rfl ?_
                  refine r_iload_n C dX12_takes_150 rfl ?_
                  refine r_aload_n C dX12_takes_151 rfl ?_
                  refine r_getI0 C dX12_takes_152 fg_X12_167 (by decide) ?_
                  refine WA.asc ?_
                  refine r_callV C (st := [.int r45]) (As := [.int a1, .int (σ.1 0 0 0)]) (d := 0) (j := 0) dX12_takes_155 ml_X12_233 vw_X12_markOf ⟨_, _, _, _, rfl, rfl⟩ (dm0 (by decide)) (fun r47 e => c_m_markOf Θ.1.2.1 (cW Θ) (cAd Θ) (cN Θ) σ a1 (σ.1 0 0 0) r47 e) rfl rfl (Nat.le_of_ble_eq_true rfl) ⟨rfl, rfl, by decide, by decide⟩ (fun r47 h48 => ?_)
                  refine WA.bif ?_
                  refine r_icmp_ge C 177 dX12_takes_158 (by decide) ?_ ?_
                  · refine r_iconst C (0 : Int32) dX12_takes_177 (by decide) ?_
                    refine WA.wk (lv' := [some (.ref (cF Θ 0)), some (.int a1), some (.int a2), some (.int s3.1), some (.int (σ.1 0 5 i2)), some (.int s3.2), none, some (.int (σ.1 0 12 i17)), none, none, none]) [true, true, true, true, true, true, false, true, false, false, false] rfl ?_
                    exact J23 (0 : Int32) trivial
                  · refine r_aload_n C dX12_takes_161 rfl ?_
                    refine r_iload_n C dX12_takes_162 rfl ?_
                    refine r_iload C dX12_takes_163 rfl ?_
                    refine WA.asc ?_
                    refine r_callV C (st := []) (As := [.int a1, .int (σ.1 0 12 i17)]) (d := 0) (j := 0) dX12_takes_165 ml_X12_223 vw_X12_skillFor ⟨_, _, _, _, rfl, rfl⟩ (dm0 (by decide)) (fun r49 e => c_m_skillFor Θ.1.2.1 (cW Θ) (cAd Θ) (cN Θ) σ a1 (σ.1 0 12 i17) r49 e) rfl rfl (Nat.le_of_ble_eq_true rfl) ⟨rfl, rfl, by decide, by decide⟩ (fun r49 h50 => ?_)
                    refine r_bipush C (50 : Int32) dX12_takes_168 (by decide) ?_
                    refine WA.bif ?_
                    refine r_icmp_lt C 177 dX12_takes_170 (by decide) ?_ ?_
                    · refine r_iconst C (0 : Int32) dX12_takes_177 (by decide) ?_
                      refine WA.wk (lv' := [some (.ref (cF Θ 0)), some (.int a1), some (.int a2), some (.int s3.1), some (.int (σ.1 0 5 i2)), some (.int s3.2), none, some (.int (σ.1 0 12 i17)), none, none, none]) [true, true, true, true, true, true, false, true, false, false, false] rfl ?_
                      exact J23 (0 : Int32) trivial
                    · refine r_iconst C (1 : Int32) dX12_takes_173 (by decide) ?_
                      refine r_goto C 178 dX12_takes_174 (by decide) ?_
                      refine WA.wk (lv' := [some (.ref (cF Θ 0)), some (.int a1), some (.int a2), some (.int s3.1), some (.int (σ.1 0 5 i2)), some (.int s3.2), none, some (.int (σ.1 0 12 i17)), none, none, none]) [true, true, true, true, true, true, false, true, false, false, false] rfl ?_
                      exact J23 (1 : Int32) trivial
          · refine r_goto C 280 dX12_takes_88 (by decide) ?_
            refine WA.wk (lv' := [some (.ref (cF Θ 0)), some (.int a1), some (.int a2), some (.int s3.1), some (.int (σ.1 0 5 i2)), some (.int s3.2), none, none, none, none, none]) [true, true, true, true, true, true, false, false, false, false, false] rfl ?_
            exact J16 s3.1 trivial
      · refine WA.bif ?_
        refine r_icmp_eq C 80 dX12_takes_30 (by decide) ?_ ?_
        · refine r_iconst C (0 : Int32) dX12_takes_80 (by decide) ?_
          refine WA.wk (lv' := [some (.ref (cF Θ 0)), some (.int a1), some (.int a2), some (.int s3.1), some (.int (σ.1 0 5 i2)), some (.int s3.2), none, none, none, none, none]) [true, true, true, true, true, true, false, false, false, false, false] rfl ?_
          exact J13 (0 : Int32) trivial
        · refine r_iload C dX12_takes_33 rfl ?_
          refine r_iload_n C dX12_takes_35 rfl ?_
          refine WA.bif ?_
          refine r_icmp_eq C 80 dX12_takes_36 (by decide) ?_ ?_
          · refine r_iconst C (0 : Int32) dX12_takes_80 (by decide) ?_
            refine WA.wk (lv' := [some (.ref (cF Θ 0)), some (.int a1), some (.int a2), some (.int s3.1), some (.int (σ.1 0 5 i2)), some (.int s3.2), none, none, none, none, none]) [true, true, true, true, true, true, false, false, false, false, false] rfl ?_
            exact J13 (0 : Int32) trivial
          · refine r_aload_n C dX12_takes_39 rfl ?_
            refine r_iload C dX12_takes_40 rfl ?_
            refine WA.asc ?_
            refine r_callV C (st := []) (As := [.int s3.2]) (d := 0) (j := 0) dX12_takes_42 ml_X12_200 vw_X12_isHere ⟨_, _, _, _, rfl, rfl⟩ (dm0 (by decide)) (fun r51 e => c_m_isHere Θ.1.2.1 (cW Θ) (cAd Θ) (cN Θ) σ s3.2 r51 e) rfl rfl (Nat.le_of_ble_eq_true rfl) ⟨rfl, rfl, by decide, by decide⟩ (fun r51 h52 => ?_)
            refine WA.bif ?_
            refine r_if_eq C 80 dX12_takes_45 (by decide) ?_ ?_
            · refine r_iconst C (0 : Int32) dX12_takes_80 (by decide) ?_
              refine WA.wk (lv' := [some (.ref (cF Θ 0)), some (.int a1), some (.int a2), some (.int s3.1), some (.int (σ.1 0 5 i2)), some (.int s3.2), none, none, none, none, none]) [true, true, true, true, true, true, false, false, false, false, false] rfl ?_
              exact J13 (0 : Int32) trivial
            · refine r_aload_n C dX12_takes_48 rfl ?_
              refine r_getF0 C dX12_takes_49 fg_X12_43 (by decide) ?_
              refine r_iload C dX12_takes_52 rfl ?_
              refine WA.asc ?_
              refine r_iald (α := Unit) C dX12_takes_54 ag_LM_12 (fun i53 => ?_)
              refine WA.bif ?_
              refine r_if_lt C 80 dX12_takes_55 (by decide) ?_ ?_
              · refine r_iconst C (0 : Int32) dX12_takes_80 (by decide) ?_
                refine WA.wk (lv' := [some (.ref (cF Θ 0)), some (.int a1), some (.int a2), some (.int s3.1), some (.int (σ.1 0 5 i2)), some (.int s3.2), none, none, none, none, none]) [true, true, true, true, true, true, false, false, false, false, false] rfl ?_
                exact J13 (0 : Int32) trivial
              · refine r_aload_n C dX12_takes_58 rfl ?_
                refine r_iload C dX12_takes_59 rfl ?_
                refine WA.asc ?_
                refine r_callV C (st := []) (As := [.int s3.2]) (d := 0) (j := 0) dX12_takes_61 ml_X12_252 vw_X12_isGuarded ⟨_, _, _, _, rfl, rfl⟩ (dm0 (by decide)) (fun r54 e => c_m_isGuarded Θ.1.2.1 (cW Θ) (cAd Θ) (cN Θ) σ s3.2 r54 e) rfl rfl (Nat.le_of_ble_eq_true rfl) ⟨rfl, rfl, by decide, by decide⟩ (fun r54 h55 => ?_)
                refine WA.bif ?_
                refine r_if_ne C 80 dX12_takes_64 (by decide) ?_ ?_
                · refine r_iconst C (0 : Int32) dX12_takes_80 (by decide) ?_
                  refine WA.wk (lv' := [some (.ref (cF Θ 0)), some (.int a1), some (.int a2), some (.int s3.1), some (.int (σ.1 0 5 i2)), some (.int s3.2), none, none, none, none, none]) [true, true, true, true, true, true, false, false, false, false, false] rfl ?_
                  exact J13 (0 : Int32) trivial
                · refine r_aload_n C dX12_takes_67 rfl ?_
                  refine r_iload C dX12_takes_68 rfl ?_
                  refine WA.asc ?_
                  refine r_callV C (st := []) (As := [.int s3.2]) (d := 0) (j := 0) dX12_takes_70 ml_X12_301 vw_X12_isMoved ⟨_, _, _, _, rfl, rfl⟩ (dm0 (by decide)) (fun r56 e => c_m_isMoved Θ.1.2.1 (cW Θ) (cAd Θ) (cN Θ) σ s3.2 r56 e) rfl rfl (Nat.le_of_ble_eq_true rfl) ⟨rfl, rfl, by decide, by decide⟩ (fun r56 h57 => ?_)
                  refine WA.bif ?_
                  refine r_if_ne C 80 dX12_takes_73 (by decide) ?_ ?_
                  · refine r_iconst C (0 : Int32) dX12_takes_80 (by decide) ?_
                    refine WA.wk (lv' := [some (.ref (cF Θ 0)), some (.int a1), some (.int a2), some (.int s3.1), some (.int (σ.1 0 5 i2)), some (.int s3.2), none, none, none, none, none]) [true, true, true, true, true, true, false, false, false, false, false] rfl ?_
                    exact J13 (0 : Int32) trivial
                  · refine r_iconst C (1 : Int32) dX12_takes_76 (by decide) ?_
                    refine r_goto C 81 dX12_takes_77 (by decide) ?_
                    refine WA.wk (lv' := [some (.ref (cF Θ 0)), some (.int a1), some (.int a2), some (.int s3.1), some (.int (σ.1 0 5 i2)), some (.int s3.2), none, none, none, none, none]) [true, true, true, true, true, true, false, false, false, false, false] rfl ?_
                    exact J13 (1 : Int32) trivial
theorem c_m_takes (l : Launch) (ω : Wd) (ad : Nat → Nat → Nat) (N : Nat → Nat) (σ : St) (a1 : Int32) (a2 : Int32) : ∀ r : Int32, m_takes σ a1 a2 = some r → Ct l yX12_takes cX12_takes 11 (some .int) ({ frames := 4, cells := 0, slots := 0, locals := 92 } : Room) LM ω ad N [.ref (ω.2.1 0), .int a1, .int a2] σ (some (.int r)) σ (True) :=
  ct_of (o := fun r : Int32 => (some (.int r))) (s' := fun r => σ) (P := fun r => True) [some (.ref (ω.2.1 0)), some (.int a1), some (.int a2), none, none, none, none, none, none, none, none] (by decide) rfl (Nat.le_of_ble_eq_true rfl) (fun Γ C _ _ => w_m_takes (Γ, ω, 11, ad, N, 0, 0) σ a1 a2 C)
theorem ag_LM_34 : AG LM 34 0 41 := ⟨by decide, rfl⟩
theorem vw_X12_takes : VW yX12_takes cX12_takes 11 (some .int) 2 := ⟨⟨(in_wt 88 (by decide +kernel) (by decide +kernel)), (in_wt 1652 (by decide +kernel) (by decide +kernel)), by decide +kernel⟩, (in_wt 1651 (by decide +kernel) (by decide +kernel)), (in_wt 70 (by decide +kernel) (by decide +kernel))⟩
theorem fg_X12_116 : FG LM RX12 116 0 0 49 (1, 34) := ⟨_, _, _, _, _, rfl, rfl, rfl, by decide, uw_X12, (in_wt 1283 (by decide +kernel) (by decide +kernel))⟩
theorem fg_X12_307 : FG LM RX12 307 0 0 52 (0, 0) := ⟨_, _, _, _, _, rfl, rfl, rfl, by decide, uw_X12, (in_wt 1286 (by decide +kernel) (by decide +kernel))⟩
theorem fp_X12_304 : FP LM RX12 304 0 0 51 (0, 0) .int := ⟨_, _, _, _, _, tyX12, rfl, rfl, rfl, by decide, uw_X12, (in_wt 1285 (by decide +kernel) (by decide +kernel)), tyX12_ok, nmX12, rfl, by decide +kernel⟩
theorem fp_X12_307 : FP LM RX12 307 0 0 52 (0, 0) .int := ⟨_, _, _, _, _, tyX12, rfl, rfl, rfl, by decide, uw_X12, (in_wt 1286 (by decide +kernel) (by decide +kernel)), tyX12_ok, nmX12, rfl, by decide +kernel⟩
theorem ml_X12_310 : Cond.methodLink RX12 310 yX12_takes ∈ wt := in_wt 1649 (by decide +kernel) (by decide +kernel)
/-- PostsEndModel.private void findChain(int) -/
def m_findChain (σ : St) (a1 : Int32) : Option St := (lt1 (sx σ 0 0 51 (0 : Int32)) fun σ1 => (lt1 (sx σ1 0 0 52 a1) fun σ2 => (Option.bind (m_takes σ2 a1 a1) fun r3 => (Option.bind (itr0 (S := Int32 × St) (E := St) (fun s5 => (if s5.1 < 0 then some (.inr s5.2) else (Option.bind (ix 41 (s5.2.1 0 0 51)) fun i13 => (lt1 (sx s5.2 0 33 i13 (s5.2.1 0 0 52)) fun σ14 => (Option.bind (ix 40 s5.1) fun i15 => (Option.bind (ix 41 (σ14.1 0 0 51)) fun i16 => (lt1 (sx σ14 0 34 i16 (σ14.1 0 12 i15)) fun σ17 => (Option.bind (ix 41 (σ17.1 0 0 51)) fun i18 => (lt1 (sx σ17 0 35 i18 s5.1) fun σ19 => (lt1 (sx σ19 0 0 51 ((σ19.1 0 0 51) + (1 : Int32))) fun σ20 => (lt1 (sx σ20 0 0 52 s5.1) fun σ21 => (Option.bind (m_takes σ21 (σ21.1 0 0 52) a1) fun r22 => some (.inl (r22, σ21)))))))))))))) FU (r3, σ2)) fun e10 => some e10))))
set_option maxRecDepth 20000 in
set_option maxHeartbeats 4000000 in
theorem w_m_findChain (Θ : TT) (σ : St) (a1 : Int32) (C : CX Θ cX12_findChain RX12 none ({ frames := 5, cells := 0, slots := 0, locals := 122 } : Room) 3) : WA LM Θ (fun r : St => Qm LM Θ none r (True)) 0 [some (.ref (cF Θ 0)), some (.int a1), none] [] σ (m_findChain σ a1) := by
  unfold m_findChain
  refine r_aload_n C dX12_findChain_0 rfl ?_
  refine r_iconst C (0 : Int32) dX12_findChain_1 (by decide) ?_
  refine r_putI0 C dX12_findChain_2 fp_X12_304 (by decide) ?_
  refine WA.gen (fun σ1 => ?_)
  refine r_aload_n C dX12_findChain_5 rfl ?_
  refine r_iload_n C dX12_findChain_6 rfl ?_
  refine r_putI0 C dX12_findChain_7 fp_X12_307 (by decide) ?_
  refine WA.gen (fun σ2 => ?_)
  refine r_aload_n C dX12_findChain_10 rfl ?_
  refine r_iload_n C dX12_findChain_11 rfl ?_
  refine r_iload_n C dX12_findChain_12 rfl ?_
  refine r_callV C (st := []) (As := [.int a1, .int a1]) (d := 0) (j := 0) dX12_findChain_13 ml_X12_310 vw_X12_takes ⟨_, _, _, _, rfl, rfl⟩ (dm0 (by decide)) (fun r3 e => c_m_takes Θ.1.2.1 (cW Θ) (cAd Θ) (cN Θ) σ2 a1 a1 r3 e) rfl rfl (Nat.le_of_ble_eq_true rfl) ⟨rfl, rfl, by decide, by decide⟩ (fun r3 h4 => ?_)
  refine r_istore_n C [some (.ref (cF Θ 0)), some (.int a1), some (.int r3)] dX12_findChain_16 rfl (by decide) rfl ?_
  refine WA.join (α := St) 87 (fun e10 => [none, none, none]) (fun e10 => []) (fun e10 => e10) (fun e10 => True) (fun e10 h11 => ?_) (fun J12 => ?_)
  · exact r_vret C dX12_findChain_87 rfl rfl trivial
  · refine WA.wk (lv' := [some (.ref (cF Θ 0)), some (.int a1), some (.int r3)]) [true, true, true] rfl ?_
    refine WA.itr (S := Int32 × St) 17 (fun s5 => [some (.ref (cF Θ 0)), some (.int a1), some (.int s5.1)]) (fun s5 => []) (fun s5 => s5.2) (fun s5 => True) (fun s5 k9 h6 ih7 hx8 => ?_) FU (r3, σ2) trivial
    refine r_iload_n C dX12_findChain_17 rfl ?_
    refine WA.bif ?_
    refine r_if_lt C 87 dX12_findChain_18 (by decide) ?_ ?_
    · refine WA.wk (lv' := [none, none, none]) [false, false, false] rfl ?_
      exact WA.eqK (hx8 _) (J12 s5.2 trivial)
    · refine r_aload_n C dX12_findChain_21 rfl ?_
      refine r_getF0 C dX12_findChain_22 fg_X12_113 (by decide) ?_
      refine r_aload_n C dX12_findChain_25 rfl ?_
      refine r_getI0 C dX12_findChain_26 fg_X12_304 (by decide) ?_
      refine r_aload_n C dX12_findChain_29 rfl ?_
      refine r_getI0 C dX12_findChain_30 fg_X12_307 (by decide) ?_
      refine WA.asc ?_
      refine r_iast C dX12_findChain_33 ag_LM_33 (fun i13 => ?_)
      refine WA.genB (fun σ14 => ?_)
      refine r_aload_n C dX12_findChain_34 rfl ?_
      refine r_getF0 C dX12_findChain_35 fg_X12_116 (by decide) ?_
      refine r_aload_n C dX12_findChain_38 rfl ?_
      refine r_getI0 C dX12_findChain_39 fg_X12_304 (by decide) ?_
      refine r_aload_n C dX12_findChain_42 rfl ?_
      refine r_getF0 C dX12_findChain_43 fg_X12_43 (by decide) ?_
      refine r_iload_n C dX12_findChain_46 rfl ?_
      refine WA.asc ?_
      refine r_iald (α := Unit) C dX12_findChain_47 ag_LM_12 (fun i15 => ?_)
      refine WA.asc ?_
      refine r_iast C dX12_findChain_48 ag_LM_34 (fun i16 => ?_)
      refine WA.genB (fun σ17 => ?_)
      refine r_aload_n C dX12_findChain_49 rfl ?_
      refine r_getF0 C dX12_findChain_50 fg_X12_119 (by decide) ?_
      refine r_aload_n C dX12_findChain_53 rfl ?_
      refine r_getI0 C dX12_findChain_54 fg_X12_304 (by decide) ?_
      refine r_iload_n C dX12_findChain_57 rfl ?_
      refine WA.asc ?_
      refine r_iast C dX12_findChain_58 ag_LM_35 (fun i18 => ?_)
      refine WA.genB (fun σ19 => ?_)
      refine r_aload_n C dX12_findChain_59 rfl ?_
      refine r_dup C dX12_findChain_60 rfl ?_
      refine r_getI0 C dX12_findChain_61 fg_X12_304 (by decide) ?_
      refine r_iconst C (1 : Int32) dX12_findChain_64 (by decide) ?_
      refine r_iadd C dX12_findChain_65 ?_
      refine r_putI0 C dX12_findChain_66 fp_X12_304 (by decide) ?_
      refine WA.genB (fun σ20 => ?_)
      refine r_aload_n C dX12_findChain_69 rfl ?_
      refine r_iload_n C dX12_findChain_70 rfl ?_
      refine r_putI0 C dX12_findChain_71 fp_X12_307 (by decide) ?_
      refine WA.genB (fun σ21 => ?_)
      refine r_aload_n C dX12_findChain_74 rfl ?_
      refine r_aload_n C dX12_findChain_75 rfl ?_
      refine r_getI0 C dX12_findChain_76 fg_X12_307 (by decide) ?_
      refine r_iload_n C dX12_findChain_79 rfl ?_
      refine WA.asc ?_
      refine r_callV C (st := []) (As := [.int (σ21.1 0 0 52), .int a1]) (d := 0) (j := 0) dX12_findChain_80 ml_X12_310 vw_X12_takes ⟨_, _, _, _, rfl, rfl⟩ (dm0 (by decide)) (fun r22 e => c_m_takes Θ.1.2.1 (cW Θ) (cAd Θ) (cN Θ) σ21 (σ21.1 0 0 52) a1 r22 e) rfl rfl (Nat.le_of_ble_eq_true rfl) ⟨rfl, rfl, by decide, by decide⟩ (fun r22 h23 => ?_)
      refine r_istore_n C [some (.ref (cF Θ 0)), some (.int a1), some (.int r22)] dX12_findChain_83 rfl (by decide) rfl ?_
      refine r_goto C 17 dX12_findChain_84 (by decide) ?_
      refine WA.wk (lv' := [some (.ref (cF Θ 0)), some (.int a1), some (.int r22)]) [true, true, true] rfl ?_
      exact ih7 (r22, σ21) trivial
theorem c_m_findChain (l : Launch) (ω : Wd) (ad : Nat → Nat → Nat) (N : Nat → Nat) (σ : St) (a1 : Int32) : ∀ r : St, m_findChain σ a1 = some r → Ct l yX12_findChain cX12_findChain 3 none ({ frames := 5, cells := 0, slots := 0, locals := 122 } : Room) LM ω ad N [.ref (ω.2.1 0), .int a1] σ none r (True) :=
  ct_of (o := fun r : St => none) (s' := fun r => r) (P := fun r => True) [some (.ref (ω.2.1 0)), some (.int a1), none] (by decide) rfl (Nat.le_of_ble_eq_true rfl) (fun Γ C _ _ => w_m_findChain (Γ, ω, 3, ad, N, 0, 0) σ a1 C)
theorem vw_X12_findChain : VW yX12_findChain cX12_findChain 3 none 1 := ⟨⟨(in_wt 88 (by decide +kernel) (by decide +kernel)), (in_wt 1648 (by decide +kernel) (by decide +kernel)), by decide +kernel⟩, (in_wt 1647 (by decide +kernel) (by decide +kernel)), (in_wt 69 (by decide +kernel) (by decide +kernel))⟩
theorem ml_X12_313 : Cond.methodLink RX12 313 yX12_findChain ∈ wt := in_wt 1645 (by decide +kernel) (by decide +kernel)
/-- PostsEndModel.public int chain(int) -/
def m_chain (σ : St) (a1 : Int32) : Option (Int32 × St) := (Option.bind (m_isPerson σ a1) fun r1 => (if r1 = 0 then (Option.bind (m_refuse σ (-1 : Int32)) fun r12 => some (r12.1, r12.2)) else (Option.bind (m_isHere σ a1) fun r3 => (if r3 = 0 then (Option.bind (m_refuse σ (-3 : Int32)) fun r5 => some (r5.1, r5.2)) else (Option.bind (ix 40 a1) fun i7 => (if σ.1 0 12 i7 < 0 then (Option.bind (m_refuse σ (-3 : Int32)) fun r10 => some (r10.1, r10.2)) else (Option.bind (m_findChain σ a1) fun r8 => some (r8.1 0 0 51, r8))))))))
set_option maxRecDepth 20000 in
set_option maxHeartbeats 4000000 in
theorem w_m_chain (Θ : TT) (σ : St) (a1 : Int32) (C : CX Θ cX12_chain RX12 (some .int) ({ frames := 6, cells := 0, slots := 0, locals := 144 } : Room) 2) : WA LM Θ (fun r : Int32 × St => Qm LM Θ (some (.int r.1)) r.2 (True)) 0 [some (.ref (cF Θ 0)), some (.int a1)] [] σ (m_chain σ a1) := by
  unfold m_chain
  refine r_aload_n C dX12_chain_0 rfl ?_
  refine r_iload_n C dX12_chain_1 rfl ?_
  refine r_callV C (st := []) (As := [.int a1]) (d := 0) (j := 0) dX12_chain_2 ml_X12_194 vw_X12_isPerson ⟨_, _, _, _, rfl, rfl⟩ (dm0 (by decide)) (fun r1 e => c_m_isPerson Θ.1.2.1 (cW Θ) (cAd Θ) (cN Θ) σ a1 r1 e) rfl rfl (Nat.le_of_ble_eq_true rfl) ⟨rfl, rfl, by decide, by decide⟩ (fun r1 h2 => ?_)
  refine r_if_ne C 14 dX12_chain_5 (by decide) ?_ ?_
  · refine r_aload_n C dX12_chain_14 rfl ?_
    refine r_iload_n C dX12_chain_15 rfl ?_
    refine r_callV C (st := []) (As := [.int a1]) (d := 0) (j := 0) dX12_chain_16 ml_X12_200 vw_X12_isHere ⟨_, _, _, _, rfl, rfl⟩ (dm0 (by decide)) (fun r3 e => c_m_isHere Θ.1.2.1 (cW Θ) (cAd Θ) (cN Θ) σ a1 r3 e) rfl rfl (Nat.le_of_ble_eq_true rfl) ⟨rfl, rfl, by decide, by decide⟩ (fun r3 h4 => ?_)
    refine r_if_eq C 31 dX12_chain_19 (by decide) ?_ ?_
    · refine r_aload_n C dX12_chain_31 rfl ?_
      refine r_bipush C (-3 : Int32) dX12_chain_32 (by decide) ?_
      refine r_callV C (st := []) (As := [.int (-3 : Int32)]) (d := 0) (j := 0) dX12_chain_34 ml_X12_174 vw_X12_refuse ⟨_, _, _, _, rfl, rfl⟩ (dm0 (by decide)) (fun r5 e => c_m_refuse Θ.1.2.1 (cW Θ) (cAd Θ) (cN Θ) σ (-3 : Int32) r5 e) rfl rfl (Nat.le_of_ble_eq_true rfl) ⟨rfl, rfl, by decide, by decide⟩ (fun r5 h6 => ?_)
      exact r_iret C dX12_chain_37 rfl rfl trivial
    · refine r_aload_n C dX12_chain_22 rfl ?_
      refine r_getF0 C dX12_chain_23 fg_X12_43 (by decide) ?_
      refine r_iload_n C dX12_chain_26 rfl ?_
      refine r_iald (α := Unit) C dX12_chain_27 ag_LM_12 (fun i7 => ?_)
      refine r_if_ge C 38 dX12_chain_28 (by decide) ?_ ?_
      · refine r_aload_n C dX12_chain_38 rfl ?_
        refine r_iload_n C dX12_chain_39 rfl ?_
        refine r_callV C (st := []) (As := [.int a1]) (d := 0) (j := 0) dX12_chain_40 ml_X12_313 vw_X12_findChain ⟨_, _, _, _, rfl, rfl⟩ (dm0 (by decide)) (fun r8 e => c_m_findChain Θ.1.2.1 (cW Θ) (cAd Θ) (cN Θ) σ a1 r8 e) rfl rfl (Nat.le_of_ble_eq_true rfl) ⟨rfl, rfl, by decide, by decide⟩ (fun r8 h9 => ?_)
        refine r_aload_n C dX12_chain_43 rfl ?_
        refine r_getI0 C dX12_chain_44 fg_X12_304 (by decide) ?_
        exact r_iret C dX12_chain_47 rfl rfl trivial
      · refine r_aload_n C dX12_chain_31 rfl ?_
        refine r_bipush C (-3 : Int32) dX12_chain_32 (by decide) ?_
        refine r_callV C (st := []) (As := [.int (-3 : Int32)]) (d := 0) (j := 0) dX12_chain_34 ml_X12_174 vw_X12_refuse ⟨_, _, _, _, rfl, rfl⟩ (dm0 (by decide)) (fun r10 e => c_m_refuse Θ.1.2.1 (cW Θ) (cAd Θ) (cN Θ) σ (-3 : Int32) r10 e) rfl rfl (Nat.le_of_ble_eq_true rfl) ⟨rfl, rfl, by decide, by decide⟩ (fun r10 h11 => ?_)
        exact r_iret C dX12_chain_37 rfl rfl trivial
  · refine r_aload_n C dX12_chain_8 rfl ?_
    refine r_iconst C (-1 : Int32) dX12_chain_9 (by decide) ?_
    refine r_callV C (st := []) (As := [.int (-1 : Int32)]) (d := 0) (j := 0) dX12_chain_10 ml_X12_174 vw_X12_refuse ⟨_, _, _, _, rfl, rfl⟩ (dm0 (by decide)) (fun r12 e => c_m_refuse Θ.1.2.1 (cW Θ) (cAd Θ) (cN Θ) σ (-1 : Int32) r12 e) rfl rfl (Nat.le_of_ble_eq_true rfl) ⟨rfl, rfl, by decide, by decide⟩ (fun r12 h13 => ?_)
    exact r_iret C dX12_chain_13 rfl rfl trivial
theorem c_m_chain (l : Launch) (ω : Wd) (ad : Nat → Nat → Nat) (N : Nat → Nat) (σ : St) (a1 : Int32) : ∀ r : Int32 × St, m_chain σ a1 = some r → Ct l yX12_chain cX12_chain 2 (some .int) ({ frames := 6, cells := 0, slots := 0, locals := 144 } : Room) LM ω ad N [.ref (ω.2.1 0), .int a1] σ (some (.int r.1)) r.2 (True) :=
  ct_of (o := fun r : Int32 × St => (some (.int r.1))) (s' := fun r => r.2) (P := fun r => True) [some (.ref (ω.2.1 0)), some (.int a1)] (by decide) rfl (Nat.le_of_ble_eq_true rfl) (fun Γ C _ _ => w_m_chain (Γ, ω, 2, ad, N, 0, 0) σ a1 C)
/-- PostsEndModel.public int chainOf(int, int, int) -/
def m_chainOf (σ : St) (a1 : Int32) (a2 : Int32) (a3 : Int32) : Option (Int32 × St) := (Option.bind (m_isPerson σ a1) fun r1 => (if r1 = 0 then (Option.bind (m_refuse σ (-1 : Int32)) fun r23 => some (r23.1, r23.2)) else (Option.bind (m_in a3 (0 : Int32) (3 : Int32)) fun r3 => (if r3 = 0 then (Option.bind (m_refuse σ (-2 : Int32)) fun r21 => some (r21.1, r21.2)) else (Option.bind (m_isHere σ a1) fun r5 => (if r5 = 0 then (Option.bind (m_refuse σ (-3 : Int32)) fun r7 => some (r7.1, r7.2)) else (Option.bind (ix 40 a1) fun i9 => (if σ.1 0 12 i9 < 0 then (Option.bind (m_refuse σ (-3 : Int32)) fun r19 => some (r19.1, r19.2)) else (Option.bind (m_findChain σ a1) fun r10 => (if a3 = (3 : Int32) then some (r10.1 0 0 52, r10) else (Option.bind (m_in a2 (0 : Int32) ((r10.1 0 0 51) - (1 : Int32))) fun r12 => (if r12 = 0 then (Option.bind (m_refuse r10 (-1 : Int32)) fun r17 => some (r17.1, r17.2)) else (if a3 = 0 then (Option.bind (ix 41 a2) fun i16 => some (r10.1 0 33 i16, r10)) else (if a3 = (1 : Int32) then (Option.bind (ix 41 a2) fun i15 => some (r10.1 0 34 i15, r10)) else (Option.bind (ix 41 a2) fun i14 => some (r10.1 0 35 i14, r10))))))))))))))))
set_option maxRecDepth 20000 in
set_option maxHeartbeats 4000000 in
theorem w_m_chainOf (Θ : TT) (σ : St) (a1 : Int32) (a2 : Int32) (a3 : Int32) (C : CX Θ cX12_chainOf RX12 (some .int) ({ frames := 6, cells := 0, slots := 0, locals := 144 } : Room) 4) : WA LM Θ (fun r : Int32 × St => Qm LM Θ (some (.int r.1)) r.2 (True)) 0 [some (.ref (cF Θ 0)), some (.int a1), some (.int a2), some (.int a3)] [] σ (m_chainOf σ a1 a2 a3) := by
  unfold m_chainOf
  refine r_aload_n C dX12_chainOf_0 rfl ?_
  refine r_iload_n C dX12_chainOf_1 rfl ?_
  refine r_callV C (st := []) (As := [.int a1]) (d := 0) (j := 0) dX12_chainOf_2 ml_X12_194 vw_X12_isPerson ⟨_, _, _, _, rfl, rfl⟩ (dm0 (by decide)) (fun r1 e => c_m_isPerson Θ.1.2.1 (cW Θ) (cAd Θ) (cN Θ) σ a1 r1 e) rfl rfl (Nat.le_of_ble_eq_true rfl) ⟨rfl, rfl, by decide, by decide⟩ (fun r1 h2 => ?_)
  refine r_if_ne C 14 dX12_chainOf_5 (by decide) ?_ ?_
  · refine r_iload_n C dX12_chainOf_14 rfl ?_
    refine r_iconst C (0 : Int32) dX12_chainOf_15 (by decide) ?_
    refine r_iconst C (3 : Int32) dX12_chainOf_16 (by decide) ?_
    refine r_callS C (st := []) (As := [.int a3, .int (0 : Int32), .int (3 : Int32)]) dX12_chainOf_17 ml_X12_157 sw_X12_in (fun r3 e => c_m_in Θ.1.2.1 (cW Θ) (cAd Θ) (cN Θ) σ a3 (0 : Int32) (3 : Int32) r3 e) rfl rfl (Nat.le_of_ble_eq_true rfl) ⟨rfl, rfl, by decide, by decide⟩ (fun r3 h4 => ?_)
    refine r_if_ne C 30 dX12_chainOf_20 (by decide) ?_ ?_
    · refine r_aload_n C dX12_chainOf_30 rfl ?_
      refine r_iload_n C dX12_chainOf_31 rfl ?_
      refine r_callV C (st := []) (As := [.int a1]) (d := 0) (j := 0) dX12_chainOf_32 ml_X12_200 vw_X12_isHere ⟨_, _, _, _, rfl, rfl⟩ (dm0 (by decide)) (fun r5 e => c_m_isHere Θ.1.2.1 (cW Θ) (cAd Θ) (cN Θ) σ a1 r5 e) rfl rfl (Nat.le_of_ble_eq_true rfl) ⟨rfl, rfl, by decide, by decide⟩ (fun r5 h6 => ?_)
      refine r_if_eq C 47 dX12_chainOf_35 (by decide) ?_ ?_
      · refine r_aload_n C dX12_chainOf_47 rfl ?_
        refine r_bipush C (-3 : Int32) dX12_chainOf_48 (by decide) ?_
        refine r_callV C (st := []) (As := [.int (-3 : Int32)]) (d := 0) (j := 0) dX12_chainOf_50 ml_X12_174 vw_X12_refuse ⟨_, _, _, _, rfl, rfl⟩ (dm0 (by decide)) (fun r7 e => c_m_refuse Θ.1.2.1 (cW Θ) (cAd Θ) (cN Θ) σ (-3 : Int32) r7 e) rfl rfl (Nat.le_of_ble_eq_true rfl) ⟨rfl, rfl, by decide, by decide⟩ (fun r7 h8 => ?_)
        exact r_iret C dX12_chainOf_53 rfl rfl trivial
      · refine r_aload_n C dX12_chainOf_38 rfl ?_
        refine r_getF0 C dX12_chainOf_39 fg_X12_43 (by decide) ?_
        refine r_iload_n C dX12_chainOf_42 rfl ?_
        refine r_iald (α := Unit) C dX12_chainOf_43 ag_LM_12 (fun i9 => ?_)
        refine r_if_ge C 54 dX12_chainOf_44 (by decide) ?_ ?_
        · refine r_aload_n C dX12_chainOf_54 rfl ?_
          refine r_iload_n C dX12_chainOf_55 rfl ?_
          refine r_callV C (st := []) (As := [.int a1]) (d := 0) (j := 0) dX12_chainOf_56 ml_X12_313 vw_X12_findChain ⟨_, _, _, _, rfl, rfl⟩ (dm0 (by decide)) (fun r10 e => c_m_findChain Θ.1.2.1 (cW Θ) (cAd Θ) (cN Θ) σ a1 r10 e) rfl rfl (Nat.le_of_ble_eq_true rfl) ⟨rfl, rfl, by decide, by decide⟩ (fun r10 h11 => ?_)
          refine r_iload_n C dX12_chainOf_59 rfl ?_
          refine r_iconst C (3 : Int32) dX12_chainOf_60 (by decide) ?_
          refine r_icmp_ne C 69 dX12_chainOf_61 (by decide) ?_ ?_
          · refine r_iload_n C dX12_chainOf_69 rfl ?_
            refine r_iconst C (0 : Int32) dX12_chainOf_70 (by decide) ?_
            refine r_aload_n C dX12_chainOf_71 rfl ?_
            refine r_getI0 C dX12_chainOf_72 fg_X12_304 (by decide) ?_
            refine r_iconst C (1 : Int32) dX12_chainOf_75 (by decide) ?_
            refine r_isub C dX12_chainOf_76 ?_
            refine r_callS C (st := []) (As := [.int a2, .int (0 : Int32), .int ((r10.1 0 0 51) - (1 : Int32))]) dX12_chainOf_77 ml_X12_157 sw_X12_in (fun r12 e => c_m_in Θ.1.2.1 (cW Θ) (cAd Θ) (cN Θ) r10 a2 (0 : Int32) ((r10.1 0 0 51) - (1 : Int32)) r12 e) rfl rfl (Nat.le_of_ble_eq_true rfl) ⟨rfl, rfl, by decide, by decide⟩ (fun r12 h13 => ?_)
            refine r_if_ne C 89 dX12_chainOf_80 (by decide) ?_ ?_
            · refine r_iload_n C dX12_chainOf_89 rfl ?_
              refine r_if_ne C 102 dX12_chainOf_90 (by decide) ?_ ?_
              · refine r_iload_n C dX12_chainOf_102 rfl ?_
                refine r_iconst C (1 : Int32) dX12_chainOf_103 (by decide) ?_
                refine r_icmp_ne C 116 dX12_chainOf_104 (by decide) ?_ ?_
                · refine r_aload_n C dX12_chainOf_116 rfl ?_
                  refine r_getF0 C dX12_chainOf_117 fg_X12_119 (by decide) ?_
                  refine r_iload_n C dX12_chainOf_120 rfl ?_
                  refine r_iald (α := Unit) C dX12_chainOf_121 ag_LM_35 (fun i14 => ?_)
                  exact r_iret C dX12_chainOf_122 rfl rfl trivial
                · refine r_aload_n C dX12_chainOf_107 rfl ?_
                  refine r_getF0 C dX12_chainOf_108 fg_X12_116 (by decide) ?_
                  refine r_iload_n C dX12_chainOf_111 rfl ?_
                  refine r_iald (α := Unit) C dX12_chainOf_112 ag_LM_34 (fun i15 => ?_)
                  refine r_goto C 122 dX12_chainOf_113 (by decide) ?_
                  exact r_iret C dX12_chainOf_122 rfl rfl trivial
              · refine r_aload_n C dX12_chainOf_93 rfl ?_
                refine r_getF0 C dX12_chainOf_94 fg_X12_113 (by decide) ?_
                refine r_iload_n C dX12_chainOf_97 rfl ?_
                refine r_iald (α := Unit) C dX12_chainOf_98 ag_LM_33 (fun i16 => ?_)
                refine r_goto C 122 dX12_chainOf_99 (by decide) ?_
                exact r_iret C dX12_chainOf_122 rfl rfl trivial
            · refine r_aload_n C dX12_chainOf_83 rfl ?_
              refine r_iconst C (-1 : Int32) dX12_chainOf_84 (by decide) ?_
              refine r_callV C (st := []) (As := [.int (-1 : Int32)]) (d := 0) (j := 0) dX12_chainOf_85 ml_X12_174 vw_X12_refuse ⟨_, _, _, _, rfl, rfl⟩ (dm0 (by decide)) (fun r17 e => c_m_refuse Θ.1.2.1 (cW Θ) (cAd Θ) (cN Θ) r10 (-1 : Int32) r17 e) rfl rfl (Nat.le_of_ble_eq_true rfl) ⟨rfl, rfl, by decide, by decide⟩ (fun r17 h18 => ?_)
              exact r_iret C dX12_chainOf_88 rfl rfl trivial
          · refine r_aload_n C dX12_chainOf_64 rfl ?_
            refine r_getI0 C dX12_chainOf_65 fg_X12_307 (by decide) ?_
            exact r_iret C dX12_chainOf_68 rfl rfl trivial
        · refine r_aload_n C dX12_chainOf_47 rfl ?_
          refine r_bipush C (-3 : Int32) dX12_chainOf_48 (by decide) ?_
          refine r_callV C (st := []) (As := [.int (-3 : Int32)]) (d := 0) (j := 0) dX12_chainOf_50 ml_X12_174 vw_X12_refuse ⟨_, _, _, _, rfl, rfl⟩ (dm0 (by decide)) (fun r19 e => c_m_refuse Θ.1.2.1 (cW Θ) (cAd Θ) (cN Θ) σ (-3 : Int32) r19 e) rfl rfl (Nat.le_of_ble_eq_true rfl) ⟨rfl, rfl, by decide, by decide⟩ (fun r19 h20 => ?_)
          exact r_iret C dX12_chainOf_53 rfl rfl trivial
    · refine r_aload_n C dX12_chainOf_23 rfl ?_
      refine r_bipush C (-2 : Int32) dX12_chainOf_24 (by decide) ?_
      refine r_callV C (st := []) (As := [.int (-2 : Int32)]) (d := 0) (j := 0) dX12_chainOf_26 ml_X12_174 vw_X12_refuse ⟨_, _, _, _, rfl, rfl⟩ (dm0 (by decide)) (fun r21 e => c_m_refuse Θ.1.2.1 (cW Θ) (cAd Θ) (cN Θ) σ (-2 : Int32) r21 e) rfl rfl (Nat.le_of_ble_eq_true rfl) ⟨rfl, rfl, by decide, by decide⟩ (fun r21 h22 => ?_)
      exact r_iret C dX12_chainOf_29 rfl rfl trivial
  · refine r_aload_n C dX12_chainOf_8 rfl ?_
    refine r_iconst C (-1 : Int32) dX12_chainOf_9 (by decide) ?_
    refine r_callV C (st := []) (As := [.int (-1 : Int32)]) (d := 0) (j := 0) dX12_chainOf_10 ml_X12_174 vw_X12_refuse ⟨_, _, _, _, rfl, rfl⟩ (dm0 (by decide)) (fun r23 e => c_m_refuse Θ.1.2.1 (cW Θ) (cAd Θ) (cN Θ) σ (-1 : Int32) r23 e) rfl rfl (Nat.le_of_ble_eq_true rfl) ⟨rfl, rfl, by decide, by decide⟩ (fun r23 h24 => ?_)
    exact r_iret C dX12_chainOf_13 rfl rfl trivial
theorem c_m_chainOf (l : Launch) (ω : Wd) (ad : Nat → Nat → Nat) (N : Nat → Nat) (σ : St) (a1 : Int32) (a2 : Int32) (a3 : Int32) : ∀ r : Int32 × St, m_chainOf σ a1 a2 a3 = some r → Ct l yX12_chainOf cX12_chainOf 4 (some .int) ({ frames := 6, cells := 0, slots := 0, locals := 144 } : Room) LM ω ad N [.ref (ω.2.1 0), .int a1, .int a2, .int a3] σ (some (.int r.1)) r.2 (True) :=
  ct_of (o := fun r : Int32 × St => (some (.int r.1))) (s' := fun r => r.2) (P := fun r => True) [some (.ref (ω.2.1 0)), some (.int a1), some (.int a2), some (.int a3)] (by decide) rfl (Nat.le_of_ble_eq_true rfl) (fun Γ C _ _ => w_m_chainOf (Γ, ω, 4, ad, N, 0, 0) σ a1 a2 a3 C)
theorem ag_LM_36 : AG LM 36 0 8 := ⟨by decide, rfl⟩
theorem fg_X12_122 : FG LM RX12 122 0 0 54 (1, 36) := ⟨_, _, _, _, _, rfl, rfl, rfl, by decide, uw_X12, (in_wt 1288 (by decide +kernel) (by decide +kernel))⟩
theorem fg_X12_316 : FG LM RX12 316 0 0 53 (0, 0) := ⟨_, _, _, _, _, rfl, rfl, rfl, by decide, uw_X12, (in_wt 1287 (by decide +kernel) (by decide +kernel))⟩
theorem fp_X12_316 : FP LM RX12 316 0 0 53 (0, 0) .int := ⟨_, _, _, _, _, tyX12, rfl, rfl, rfl, by decide, uw_X12, (in_wt 1287 (by decide +kernel) (by decide +kernel)), tyX12_ok, nmX12, rfl, by decide +kernel⟩
/-- PostsEndModel.public int leaver(int) -/
def m_leaver (σ : St) (a1 : Int32) : Option (Int32 × St) := (Option.bind (m_isPerson σ a1) fun r1 => (if r1 = 0 then (Option.bind (m_refuse σ (-1 : Int32)) fun r26 => some (r26.1, r26.2)) else (Option.bind (itr0 (S := Int32 × Int32) (E := Int32) (fun s3 => (if s3.2 < σ.1 0 0 53 then (Option.bind (α := Int32) ((if s3.1 = 0 then (Option.bind (ix 8 s3.2) fun i25 => (if σ.1 0 36 i25 = a1 then some (1 : Int32) else some (0 : Int32))) else some (1 : Int32))) fun t22 => some (.inl (t22, s3.2 + (1 : Int32)))) else some (.inr s3.1))) FU ((0 : Int32), (0 : Int32))) fun e8 => (Option.bind (m_isHere σ a1) fun r11 => (if r11 = 0 then (Option.bind (m_refuse σ (-3 : Int32)) fun r13 => some (r13.1, r13.2)) else (if e8 = 0 then (if σ.1 0 0 53 = (8 : Int32) then (Option.bind (m_refuse σ (-6 : Int32)) fun r18 => some (r18.1, r18.2)) else (Option.bind (ix 8 (σ.1 0 0 53)) fun i15 => (lt1 (sx σ 0 36 i15 a1) fun σ16 => (lt1 (sx σ16 0 0 53 ((σ16.1 0 0 53) + (1 : Int32))) fun σ17 => some (σ17.1 0 0 53, σ17))))) else (Option.bind (m_refuse σ (-3 : Int32)) fun r20 => some (r20.1, r20.2))))))))
set_option maxRecDepth 20000 in
set_option maxHeartbeats 4000000 in
theorem w_m_leaver (Θ : TT) (σ : St) (a1 : Int32) (C : CX Θ cX12_leaver RX12 (some .int) ({ frames := 2, cells := 0, slots := 0, locals := 43 } : Room) 4) : WA LM Θ (fun r : Int32 × St => Qm LM Θ (some (.int r.1)) r.2 (True)) 0 [some (.ref (cF Θ 0)), some (.int a1), none, none] [] σ (m_leaver σ a1) := by
  unfold m_leaver
  refine r_aload_n C dX12_leaver_0 rfl ?_
  refine r_iload_n C dX12_leaver_1 rfl ?_
  refine r_callV C (st := []) (As := [.int a1]) (d := 0) (j := 0) dX12_leaver_2 ml_X12_194 vw_X12_isPerson ⟨_, _, _, _, rfl, rfl⟩ (dm0 (by decide)) (fun r1 e => c_m_isPerson Θ.1.2.1 (cW Θ) (cAd Θ) (cN Θ) σ a1 r1 e) rfl rfl (Nat.le_of_ble_eq_true rfl) ⟨rfl, rfl, by decide, by decide⟩ (fun r1 h2 => ?_)
  refine r_if_ne C 14 dX12_leaver_5 (by decide) ?_ ?_
  · refine r_iconst C (0 : Int32) dX12_leaver_14 (by decide) ?_
    refine r_istore_n C [some (.ref (cF Θ 0)), some (.int a1), some (.int (0 : Int32)), none] dX12_leaver_15 rfl (by decide) rfl ?_
    refine r_iconst C (0 : Int32) dX12_leaver_16 (by decide) ?_
    refine r_istore_n C [some (.ref (cF Θ 0)), some (.int a1), some (.int (0 : Int32)), some (.int (0 : Int32))] dX12_leaver_17 rfl (by decide) rfl ?_
    refine WA.join (α := Int32) 52 (fun e8 => [some (.ref (cF Θ 0)), some (.int a1), some (.int e8), none]) (fun e8 => []) (fun e8 => σ) (fun e8 => True) (fun e8 h9 => ?_) (fun J10 => ?_)
    · refine r_aload_n C dX12_leaver_52 rfl ?_
      refine r_iload_n C dX12_leaver_53 rfl ?_
      refine r_callV C (st := []) (As := [.int a1]) (d := 0) (j := 0) dX12_leaver_54 ml_X12_200 vw_X12_isHere ⟨_, _, _, _, rfl, rfl⟩ (dm0 (by decide)) (fun r11 e => c_m_isHere Θ.1.2.1 (cW Θ) (cAd Θ) (cN Θ) σ a1 r11 e) rfl rfl (Nat.le_of_ble_eq_true rfl) ⟨rfl, rfl, by decide, by decide⟩ (fun r11 h12 => ?_)
      refine r_if_eq C 64 dX12_leaver_57 (by decide) ?_ ?_
      · refine r_aload_n C dX12_leaver_64 rfl ?_
        refine r_bipush C (-3 : Int32) dX12_leaver_65 (by decide) ?_
        refine r_callV C (st := []) (As := [.int (-3 : Int32)]) (d := 0) (j := 0) dX12_leaver_67 ml_X12_174 vw_X12_refuse ⟨_, _, _, _, rfl, rfl⟩ (dm0 (by decide)) (fun r13 e => c_m_refuse Θ.1.2.1 (cW Θ) (cAd Θ) (cN Θ) σ (-3 : Int32) r13 e) rfl rfl (Nat.le_of_ble_eq_true rfl) ⟨rfl, rfl, by decide, by decide⟩ (fun r13 h14 => ?_)
        exact r_iret C dX12_leaver_70 rfl rfl trivial
      · refine r_iload_n C dX12_leaver_60 rfl ?_
        refine r_if_eq C 71 dX12_leaver_61 (by decide) ?_ ?_
        · refine r_aload_n C dX12_leaver_71 rfl ?_
          refine r_getI0 C dX12_leaver_72 fg_X12_316 (by decide) ?_
          refine r_bipush C (8 : Int32) dX12_leaver_75 (by decide) ?_
          refine r_icmp_ne C 87 dX12_leaver_77 (by decide) ?_ ?_
          · refine r_aload_n C dX12_leaver_87 rfl ?_
            refine r_getF0 C dX12_leaver_88 fg_X12_122 (by decide) ?_
            refine r_aload_n C dX12_leaver_91 rfl ?_
            refine r_getI0 C dX12_leaver_92 fg_X12_316 (by decide) ?_
            refine r_iload_n C dX12_leaver_95 rfl ?_
            refine r_iast C dX12_leaver_96 ag_LM_36 (fun i15 => ?_)
            refine WA.gen (fun σ16 => ?_)
            refine r_aload_n C dX12_leaver_97 rfl ?_
            refine r_dup C dX12_leaver_98 rfl ?_
            refine r_getI0 C dX12_leaver_99 fg_X12_316 (by decide) ?_
            refine r_iconst C (1 : Int32) dX12_leaver_102 (by decide) ?_
            refine r_iadd C dX12_leaver_103 ?_
            refine r_putI0 C dX12_leaver_104 fp_X12_316 (by decide) ?_
            refine WA.gen (fun σ17 => ?_)
            refine r_aload_n C dX12_leaver_107 rfl ?_
            refine r_getI0 C dX12_leaver_108 fg_X12_316 (by decide) ?_
            exact r_iret C dX12_leaver_111 rfl rfl trivial
          · refine r_aload_n C dX12_leaver_80 rfl ?_
            refine r_bipush C (-6 : Int32) dX12_leaver_81 (by decide) ?_
            refine r_callV C (st := []) (As := [.int (-6 : Int32)]) (d := 0) (j := 0) dX12_leaver_83 ml_X12_174 vw_X12_refuse ⟨_, _, _, _, rfl, rfl⟩ (dm0 (by decide)) (fun r18 e => c_m_refuse Θ.1.2.1 (cW Θ) (cAd Θ) (cN Θ) σ (-6 : Int32) r18 e) rfl rfl (Nat.le_of_ble_eq_true rfl) ⟨rfl, rfl, by decide, by decide⟩ (fun r18 h19 => ?_)
            exact r_iret C dX12_leaver_86 rfl rfl trivial
        · refine r_aload_n C dX12_leaver_64 rfl ?_
          refine r_bipush C (-3 : Int32) dX12_leaver_65 (by decide) ?_
          refine r_callV C (st := []) (As := [.int (-3 : Int32)]) (d := 0) (j := 0) dX12_leaver_67 ml_X12_174 vw_X12_refuse ⟨_, _, _, _, rfl, rfl⟩ (dm0 (by decide)) (fun r20 e => c_m_refuse Θ.1.2.1 (cW Θ) (cAd Θ) (cN Θ) σ (-3 : Int32) r20 e) rfl rfl (Nat.le_of_ble_eq_true rfl) ⟨rfl, rfl, by decide, by decide⟩ (fun r20 h21 => ?_)
          exact r_iret C dX12_leaver_70 rfl rfl trivial
    · refine WA.wk (lv' := [some (.ref (cF Θ 0)), some (.int a1), some (.int (0 : Int32)), some (.int (0 : Int32))]) [true, true, true, true] rfl ?_
      refine WA.itr (S := Int32 × Int32) 18 (fun s3 => [some (.ref (cF Θ 0)), some (.int a1), some (.int s3.1), some (.int s3.2)]) (fun s3 => []) (fun s3 => σ) (fun s3 => True) (fun s3 k7 h4 ih5 hx6 => ?_) FU ((0 : Int32), (0 : Int32)) trivial
      refine r_iload_n C dX12_leaver_18 rfl ?_
      refine r_aload_n C dX12_leaver_19 rfl ?_
      refine r_getI0 C dX12_leaver_20 fg_X12_316 (by decide) ?_
      refine WA.bif ?_
      refine r_icmp_ge C 52 dX12_leaver_23 (by decide) ?_ ?_
      · refine WA.wk (lv' := [some (.ref (cF Θ 0)), some (.int a1), some (.int s3.1), none]) [true, true, true, false] rfl ?_
        exact WA.eqK (hx6 _) (J10 s3.1 trivial)
      · refine r_iload_n C dX12_leaver_26 rfl ?_
        refine WA.asc ?_
        refine WA.join (α := Int32) 45 (fun t22 => [some (.ref (cF Θ 0)), some (.int a1), none, some (.int s3.2)]) (fun t22 => [.int t22]) (fun t22 => σ) (fun t22 => True) (fun t22 h23 => ?_) (fun J24 => ?_)
        · refine r_istore_n C [some (.ref (cF Θ 0)), some (.int a1), some (.int t22), some (.int s3.2)] dX12_leaver_45 rfl (by decide) rfl ?_
          refine r_iinc C (1 : Int32) [some (.ref (cF Θ 0)), some (.int a1), some (.int t22), some (.int (s3.2 + (1 : Int32)))] dX12_leaver_46 (by decide) rfl rfl (by decide) rfl ?_
          refine r_goto C 18 dX12_leaver_49 (by decide) ?_
          refine WA.wk (lv' := [some (.ref (cF Θ 0)), some (.int a1), some (.int t22), some (.int (s3.2 + (1 : Int32)))]) [true, true, true, true] rfl ?_
          exact ih5 (t22, s3.2 + (1 : Int32)) trivial
        · refine WA.bif ?_
          refine r_if_ne C 40 dX12_leaver_27 (by decide) ?_ ?_
          · refine r_iconst C (1 : Int32) dX12_leaver_40 (by decide) ?_
            refine r_goto C 45 dX12_leaver_41 (by decide) ?_
            refine WA.wk (lv' := [some (.ref (cF Θ 0)), some (.int a1), none, some (.int s3.2)]) [true, true, false, true] rfl ?_
            exact J24 (1 : Int32) trivial
          · refine r_aload_n C dX12_leaver_30 rfl ?_
            refine r_getF0 C dX12_leaver_31 fg_X12_122 (by decide) ?_
            refine r_iload_n C dX12_leaver_34 rfl ?_
            refine WA.asc ?_
            refine r_iald (α := Unit) C dX12_leaver_35 ag_LM_36 (fun i25 => ?_)
            refine r_iload_n C dX12_leaver_36 rfl ?_
            refine WA.bif ?_
            refine r_icmp_ne C 44 dX12_leaver_37 (by decide) ?_ ?_
            · refine r_iconst C (0 : Int32) dX12_leaver_44 (by decide) ?_
              refine WA.wk (lv' := [some (.ref (cF Θ 0)), some (.int a1), none, some (.int s3.2)]) [true, true, false, true] rfl ?_
              exact J24 (0 : Int32) trivial
            · refine r_iconst C (1 : Int32) dX12_leaver_40 (by decide) ?_
              refine r_goto C 45 dX12_leaver_41 (by decide) ?_
              refine WA.wk (lv' := [some (.ref (cF Θ 0)), some (.int a1), none, some (.int s3.2)]) [true, true, false, true] rfl ?_
              exact J24 (1 : Int32) trivial
  · refine r_aload_n C dX12_leaver_8 rfl ?_
    refine r_iconst C (-1 : Int32) dX12_leaver_9 (by decide) ?_
    refine r_callV C (st := []) (As := [.int (-1 : Int32)]) (d := 0) (j := 0) dX12_leaver_10 ml_X12_174 vw_X12_refuse ⟨_, _, _, _, rfl, rfl⟩ (dm0 (by decide)) (fun r26 e => c_m_refuse Θ.1.2.1 (cW Θ) (cAd Θ) (cN Θ) σ (-1 : Int32) r26 e) rfl rfl (Nat.le_of_ble_eq_true rfl) ⟨rfl, rfl, by decide, by decide⟩ (fun r26 h27 => ?_)
    exact r_iret C dX12_leaver_13 rfl rfl trivial
theorem c_m_leaver (l : Launch) (ω : Wd) (ad : Nat → Nat → Nat) (N : Nat → Nat) (σ : St) (a1 : Int32) : ∀ r : Int32 × St, m_leaver σ a1 = some r → Ct l yX12_leaver cX12_leaver 4 (some .int) ({ frames := 2, cells := 0, slots := 0, locals := 43 } : Room) LM ω ad N [.ref (ω.2.1 0), .int a1] σ (some (.int r.1)) r.2 (True) :=
  ct_of (o := fun r : Int32 × St => (some (.int r.1))) (s' := fun r => r.2) (P := fun r => True) [some (.ref (ω.2.1 0)), some (.int a1), none, none] (by decide) rfl (Nat.le_of_ble_eq_true rfl) (fun Γ C _ _ => w_m_leaver (Γ, ω, 4, ad, N, 0, 0) σ a1 C)
/-- PostsEndModel.public int clear() -/
def m_clear (σ : St) : Option (Int32 × St) := (lt1 (sx σ 0 0 53 (0 : Int32)) fun σ1 => some (σ.1 0 0 53, σ1))
set_option maxRecDepth 20000 in
set_option maxHeartbeats 4000000 in
theorem w_m_clear (Θ : TT) (σ : St)  (C : CX Θ cX12_clear RX12 (some .int) ({ frames := 0, cells := 0, slots := 0, locals := 0 } : Room) 2) : WA LM Θ (fun r : Int32 × St => Qm LM Θ (some (.int r.1)) r.2 (True)) 0 [some (.ref (cF Θ 0)), none] [] σ (m_clear σ) := by
  unfold m_clear
  refine r_aload_n C dX12_clear_0 rfl ?_
  refine r_getI0 C dX12_clear_1 fg_X12_316 (by decide) ?_
  refine r_istore_n C [some (.ref (cF Θ 0)), some (.int (σ.1 0 0 53))] dX12_clear_4 rfl (by decide) rfl ?_
  refine r_aload_n C dX12_clear_5 rfl ?_
  refine r_iconst C (0 : Int32) dX12_clear_6 (by decide) ?_
  refine r_putI0 C dX12_clear_7 fp_X12_316 (by decide) ?_
  refine WA.gen (fun σ1 => ?_)
  refine r_iload_n C dX12_clear_10 rfl ?_
  exact r_iret C dX12_clear_11 rfl rfl trivial
theorem c_m_clear (l : Launch) (ω : Wd) (ad : Nat → Nat → Nat) (N : Nat → Nat) (σ : St)  : ∀ r : Int32 × St, m_clear σ = some r → Ct l yX12_clear cX12_clear 2 (some .int) ({ frames := 0, cells := 0, slots := 0, locals := 0 } : Room) LM ω ad N [.ref (ω.2.1 0)] σ (some (.int r.1)) r.2 (True) :=
  ct_of (o := fun r : Int32 × St => (some (.int r.1))) (s' := fun r => r.2) (P := fun r => True) [some (.ref (ω.2.1 0)), none] (by decide) rfl (Nat.le_of_ble_eq_true rfl) (fun Γ C _ _ => w_m_clear (Γ, ω, 2, ad, N, 0, 0) σ  C)
/-- PostsEndModel.private static int amount(int) -/
def m_amount (a0 : Int32) : Option Int32 := (if a0 < 0 then some (-a0) else some a0)
set_option maxRecDepth 20000 in
set_option maxHeartbeats 4000000 in
theorem w_m_amount (Θ : TT) (σ : St) (a0 : Int32) (C : CX Θ cX12_amount RX12 (some .int) ({ frames := 0, cells := 0, slots := 0, locals := 0 } : Room) 1) : WA LM Θ (fun r : Int32 => Qm LM Θ (some (.int r)) σ (True)) 0 [some (.int a0)] [] σ (m_amount a0) := by
  unfold m_amount
  refine r_iload_n C dX12_amount_0 rfl ?_
  refine r_if_ge C 9 dX12_amount_1 (by decide) ?_ ?_
  · refine r_iload_n C dX12_amount_9 rfl ?_
    exact r_iret C dX12_amount_10 rfl rfl trivial
  · refine r_iload_n C dX12_amount_4 rfl ?_
    refine r_ineg C dX12_amount_5 ?_
    refine r_goto C 10 dX12_amount_6 (by decide) ?_
    exact r_iret C dX12_amount_10 rfl rfl trivial
theorem c_m_amount (l : Launch) (ω : Wd) (ad : Nat → Nat → Nat) (N : Nat → Nat) (σ : St) (a0 : Int32) : ∀ r : Int32, m_amount a0 = some r → Ct l yX12_amount cX12_amount 1 (some .int) ({ frames := 0, cells := 0, slots := 0, locals := 0 } : Room) LM ω ad N [.int a0] σ (some (.int r)) σ (True) :=
  ct_of (o := fun r : Int32 => (some (.int r))) (s' := fun r => σ) (P := fun r => True) [some (.int a0)] (by decide) rfl (Nat.le_of_ble_eq_true rfl) (fun Γ C _ _ => w_m_amount (Γ, ω, 1, ad, N, 0, 0) σ a0 C)
theorem sw_X12_amount : SW yX12_amount cX12_amount 1 (some .int) 1 := ⟨⟨(in_wt 88 (by decide +kernel) (by decide +kernel)), (in_wt 1679 (by decide +kernel) (by decide +kernel)), by decide +kernel⟩, (in_wt 1678 (by decide +kernel) (by decide +kernel))⟩
theorem ml_X12_319 : Cond.methodLink RX12 319 yX12_amount ∈ wt := in_wt 1677 (by decide +kernel) (by decide +kernel)
/-- PostsEndModel.private int fitOf(int, int) -/
def m_fitOf (σ : St) (a1 : Int32) (a2 : Int32) : Option Int32 := (Option.bind (ix 40 a1) fun i1 => (Option.bind (α := Int32) ((if σ.1 0 12 i1 < 0 then some (1 : Int32) else (Option.bind (ix 40 a1) fun i19 => (Option.bind (ix 40 (σ.1 0 12 i19)) fun i20 => some (σ.1 0 5 i20))))) fun t2 => (Option.bind (ix 40 a1) fun i5 => (Option.bind (α := Int32) ((if σ.1 0 12 i5 < 0 then some (0 : Int32) else (Option.bind (ix 40 a1) fun i14 => (Option.bind (ix 40 (σ.1 0 12 i14)) fun i15 => (Option.bind (ix 40 a2) fun i16 => (Option.bind (m_amount ((σ.1 0 6 i15) - (σ.1 0 6 i16))) fun r17 => some r17)))))) fun t6 => (Option.bind (m_skillFor σ a1 a2) fun r9 => (Option.bind (ix 40 a2) fun i11 => (Option.bind (m_amount (t2 - (σ.1 0 5 i11))) fun r12 => some ((r9 - ((10 : Int32) * r12)) - ((2 : Int32) * t6)))))))))
set_option maxRecDepth 20000 in
set_option maxHeartbeats 4000000 in
theorem w_m_fitOf (Θ : TT) (σ : St) (a1 : Int32) (a2 : Int32) (C : CX Θ cX12_fitOf RX12 (some .int) ({ frames := 2, cells := 0, slots := 0, locals := 44 } : Room) 5) : WA LM Θ (fun r : Int32 => Qm LM Θ (some (.int r)) σ (True)) 0 [some (.ref (cF Θ 0)), some (.int a1), some (.int a2), none, none] [] σ (m_fitOf σ a1 a2) := by
  unfold m_fitOf
  refine r_aload_n C dX12_fitOf_0 rfl ?_
  refine r_getF0 C dX12_fitOf_1 fg_X12_43 (by decide) ?_
  refine r_iload_n C dX12_fitOf_4 rfl ?_
  refine r_iald (α := Unit) C dX12_fitOf_5 ag_LM_12 (fun i1 => ?_)
  refine WA.join (α := Int32) 24 (fun t2 => [some (.ref (cF Θ 0)), some (.int a1), some (.int a2), none, none]) (fun t2 => [.int t2]) (fun t2 => σ) (fun t2 => True) (fun t2 h3 => ?_) (fun J4 => ?_)
  · refine r_istore_n C [some (.ref (cF Θ 0)), some (.int a1), some (.int a2), some (.int t2), none] dX12_fitOf_24 rfl (by decide) rfl ?_
    refine r_aload_n C dX12_fitOf_25 rfl ?_
    refine r_getF0 C dX12_fitOf_26 fg_X12_43 (by decide) ?_
    refine r_iload_n C dX12_fitOf_29 rfl ?_
    refine r_iald (α := Unit) C dX12_fitOf_30 ag_LM_12 (fun i5 => ?_)
    refine WA.join (α := Int32) 59 (fun t6 => [some (.ref (cF Θ 0)), some (.int a1), some (.int a2), some (.int t2), none]) (fun t6 => [.int t6]) (fun t6 => σ) (fun t6 => True) (fun t6 h7 => ?_) (fun J8 => ?_)
    · refine r_istore C [some (.ref (cF Θ 0)), some (.int a1), some (.int a2), some (.int t2), some (.int t6)] dX12_fitOf_59 rfl (by decide) rfl ?_
      refine r_aload_n C dX12_fitOf_61 rfl ?_
      refine r_iload_n C dX12_fitOf_62 rfl ?_
      refine r_iload_n C dX12_fitOf_63 rfl ?_
      refine r_callV C (st := []) (As := [.int a1, .int a2]) (d := 0) (j := 0) dX12_fitOf_64 ml_X12_223 vw_X12_skillFor ⟨_, _, _, _, rfl, rfl⟩ (dm0 (by decide)) (fun r9 e => c_m_skillFor Θ.1.2.1 (cW Θ) (cAd Θ) (cN Θ) σ a1 a2 r9 e) rfl rfl (Nat.le_of_ble_eq_true rfl) ⟨rfl, rfl, by decide, by decide⟩ (fun r9 h10 => ?_)
      refine r_bipush C (10 : Int32) dX12_fitOf_67 (by decide) ?_
      refine r_iload_n C dX12_fitOf_69 rfl ?_
      refine r_aload_n C dX12_fitOf_70 rfl ?_
      refine r_getF0 C dX12_fitOf_71 fg_X12_22 (by decide) ?_
      refine r_iload_n C dX12_fitOf_74 rfl ?_
      refine r_iald (α := Unit) C dX12_fitOf_75 ag_LM_5 (fun i11 => ?_)
      refine r_isub C dX12_fitOf_76 ?_
      refine r_callS C (st := [.int (10 : Int32), .int r9]) (As := [.int (t2 - (σ.1 0 5 i11))]) dX12_fitOf_77 ml_X12_319 sw_X12_amount (fun r12 e => c_m_amount Θ.1.2.1 (cW Θ) (cAd Θ) (cN Θ) σ (t2 - (σ.1 0 5 i11)) r12 e) rfl rfl (Nat.le_of_ble_eq_true rfl) ⟨rfl, rfl, by decide, by decide⟩ (fun r12 h13 => ?_)
      refine r_imul C dX12_fitOf_80 ?_
      refine r_isub C dX12_fitOf_81 ?_
      refine r_iconst C (2 : Int32) dX12_fitOf_82 (by decide) ?_
      refine r_iload C dX12_fitOf_83 rfl ?_
      refine r_imul C dX12_fitOf_85 ?_
      refine r_isub C dX12_fitOf_86 ?_
      exact r_iret C dX12_fitOf_87 rfl rfl trivial
    · refine WA.bif ?_
      refine r_if_ge C 38 dX12_fitOf_31 (by decide) ?_ ?_
      · refine r_aload_n C dX12_fitOf_38 rfl ?_
        refine r_getF0 C dX12_fitOf_39 fg_X12_25 (by decide) ?_
        refine r_aload_n C dX12_fitOf_42 rfl ?_
        refine r_getF0 C dX12_fitOf_43 fg_X12_43 (by decide) ?_
        refine r_iload_n C dX12_fitOf_46 rfl ?_
        refine WA.asc ?_
        refine r_iald (α := Unit) C dX12_fitOf_47 ag_LM_12 (fun i14 => ?_)
        refine WA.asc ?_
        refine r_iald (α := Unit) C dX12_fitOf_48 ag_LM_6 (fun i15 => ?_)
        refine r_aload_n C dX12_fitOf_49 rfl ?_
        refine r_getF0 C dX12_fitOf_50 fg_X12_25 (by decide) ?_
        refine r_iload_n C dX12_fitOf_53 rfl ?_
        refine WA.asc ?_
        refine r_iald (α := Unit) C dX12_fitOf_54 ag_LM_6 (fun i16 => ?_)
        refine r_isub C dX12_fitOf_55 ?_
        refine WA.asc ?_
        refine r_callS C (st := []) (As := [.int ((σ.1 0 6 i15) - (σ.1 0 6 i16))]) dX12_fitOf_56 ml_X12_319 sw_X12_amount (fun r17 e => c_m_amount Θ.1.2.1 (cW Θ) (cAd Θ) (cN Θ) σ ((σ.1 0 6 i15) - (σ.1 0 6 i16)) r17 e) rfl rfl (Nat.le_of_ble_eq_true rfl) ⟨rfl, rfl, by decide, by decide⟩ (fun r17 h18 => ?_)
        refine WA.wk (lv' := [some (.ref (cF Θ 0)), some (.int a1), some (.int a2), some (.int t2), none]) [true, true, true, true, false] rfl ?_
        exact J8 r17 trivial
      · refine r_iconst C (0 : Int32) dX12_fitOf_34 (by decide) ?_
        refine r_goto C 59 dX12_fitOf_35 (by decide) ?_
        refine WA.wk (lv' := [some (.ref (cF Θ 0)), some (.int a1), some (.int a2), some (.int t2), none]) [true, true, true, true, false] rfl ?_
        exact J8 (0 : Int32) trivial
  · refine WA.bif ?_
    refine r_if_ge C 13 dX12_fitOf_6 (by decide) ?_ ?_
    · refine r_aload_n C dX12_fitOf_13 rfl ?_
      refine r_getF0 C dX12_fitOf_14 fg_X12_22 (by decide) ?_
      refine r_aload_n C dX12_fitOf_17 rfl ?_
      refine r_getF0 C dX12_fitOf_18 fg_X12_43 (by decide) ?_
      refine r_iload_n C dX12_fitOf_21 rfl ?_
      refine WA.asc ?_
      refine r_iald (α := Unit) C dX12_fitOf_22 ag_LM_12 (fun i19 => ?_)
      refine WA.asc ?_
      refine r_iald (α := Unit) C dX12_fitOf_23 ag_LM_5 (fun i20 => ?_)
      refine WA.wk (lv' := [some (.ref (cF Θ 0)), some (.int a1), some (.int a2), none, none]) [true, true, true, false, false] rfl ?_
      exact J4 (σ.1 0 5 i20) trivial
    · refine r_iconst C (1 : Int32) dX12_fitOf_9 (by decide) ?_
      refine r_goto C 24 dX12_fitOf_10 (by decide) ?_
      refine WA.wk (lv' := [some (.ref (cF Θ 0)), some (.int a1), some (.int a2), none, none]) [true, true, true, false, false] rfl ?_
      exact J4 (1 : Int32) trivial
theorem c_m_fitOf (l : Launch) (ω : Wd) (ad : Nat → Nat → Nat) (N : Nat → Nat) (σ : St) (a1 : Int32) (a2 : Int32) : ∀ r : Int32, m_fitOf σ a1 a2 = some r → Ct l yX12_fitOf cX12_fitOf 5 (some .int) ({ frames := 2, cells := 0, slots := 0, locals := 44 } : Room) LM ω ad N [.ref (ω.2.1 0), .int a1, .int a2] σ (some (.int r)) σ (True) :=
  ct_of (o := fun r : Int32 => (some (.int r))) (s' := fun r => σ) (P := fun r => True) [some (.ref (ω.2.1 0)), some (.int a1), some (.int a2), none, none] (by decide) rfl (Nat.le_of_ble_eq_true rfl) (fun Γ C _ _ => w_m_fitOf (Γ, ω, 5, ad, N, 0, 0) σ a1 a2 C)
theorem vw_X12_fitOf : VW yX12_fitOf cX12_fitOf 5 (some .int) 2 := ⟨⟨(in_wt 88 (by decide +kernel) (by decide +kernel)), (in_wt 1676 (by decide +kernel) (by decide +kernel)), by decide +kernel⟩, (in_wt 1675 (by decide +kernel) (by decide +kernel)), (in_wt 72 (by decide +kernel) (by decide +kernel))⟩
theorem ml_X12_322 : Cond.methodLink RX12 322 yX12_fitOf ∈ wt := in_wt 1673 (by decide +kernel) (by decide +kernel)
/-- PostsEndModel.public int fit(int, int) -/
def m_fit (σ : St) (a1 : Int32) (a2 : Int32) : Option (Int32 × St) := (Option.bind (m_isPerson σ a1) fun r1 => (if r1 = 0 then (Option.bind (m_refuseFar σ (-1 : Int32)) fun r3 => some (r3.1, r3.2)) else (Option.bind (m_isPost σ a2) fun r5 => (if r5 = 0 then (Option.bind (m_refuseFar σ (-1 : Int32)) fun r7 => some (r7.1, r7.2)) else (Option.bind (m_fitOf σ a1 a2) fun r9 => some (r9, σ))))))
set_option maxRecDepth 20000 in
set_option maxHeartbeats 4000000 in
theorem w_m_fit (Θ : TT) (σ : St) (a1 : Int32) (a2 : Int32) (C : CX Θ cX12_fit RX12 (some .int) ({ frames := 3, cells := 0, slots := 0, locals := 68 } : Room) 3) : WA LM Θ (fun r : Int32 × St => Qm LM Θ (some (.int r.1)) r.2 (True)) 0 [some (.ref (cF Θ 0)), some (.int a1), some (.int a2)] [] σ (m_fit σ a1 a2) := by
  unfold m_fit
  refine r_aload_n C dX12_fit_0 rfl ?_
  refine r_iload_n C dX12_fit_1 rfl ?_
  refine r_callV C (st := []) (As := [.int a1]) (d := 0) (j := 0) dX12_fit_2 ml_X12_194 vw_X12_isPerson ⟨_, _, _, _, rfl, rfl⟩ (dm0 (by decide)) (fun r1 e => c_m_isPerson Θ.1.2.1 (cW Θ) (cAd Θ) (cN Θ) σ a1 r1 e) rfl rfl (Nat.le_of_ble_eq_true rfl) ⟨rfl, rfl, by decide, by decide⟩ (fun r1 h2 => ?_)
  refine r_if_eq C 25 dX12_fit_5 (by decide) ?_ ?_
  · refine r_aload_n C dX12_fit_25 rfl ?_
    refine r_iconst C (-1 : Int32) dX12_fit_26 (by decide) ?_
    refine r_callV C (st := []) (As := [.int (-1 : Int32)]) (d := 0) (j := 0) dX12_fit_27 ml_X12_197 vw_X12_refuseFar ⟨_, _, _, _, rfl, rfl⟩ (dm0 (by decide)) (fun r3 e => c_m_refuseFar Θ.1.2.1 (cW Θ) (cAd Θ) (cN Θ) σ (-1 : Int32) r3 e) rfl rfl (Nat.le_of_ble_eq_true rfl) ⟨rfl, rfl, by decide, by decide⟩ (fun r3 h4 => ?_)
    exact r_iret C dX12_fit_30 rfl rfl trivial
  · refine r_aload_n C dX12_fit_8 rfl ?_
    refine r_iload_n C dX12_fit_9 rfl ?_
    refine r_callV C (st := []) (As := [.int a2]) (d := 0) (j := 0) dX12_fit_10 ml_X12_181 vw_X12_isPost ⟨_, _, _, _, rfl, rfl⟩ (dm0 (by decide)) (fun r5 e => c_m_isPost Θ.1.2.1 (cW Θ) (cAd Θ) (cN Θ) σ a2 r5 e) rfl rfl (Nat.le_of_ble_eq_true rfl) ⟨rfl, rfl, by decide, by decide⟩ (fun r5 h6 => ?_)
    refine r_if_eq C 25 dX12_fit_13 (by decide) ?_ ?_
    · refine r_aload_n C dX12_fit_25 rfl ?_
      refine r_iconst C (-1 : Int32) dX12_fit_26 (by decide) ?_
      refine r_callV C (st := []) (As := [.int (-1 : Int32)]) (d := 0) (j := 0) dX12_fit_27 ml_X12_197 vw_X12_refuseFar ⟨_, _, _, _, rfl, rfl⟩ (dm0 (by decide)) (fun r7 e => c_m_refuseFar Θ.1.2.1 (cW Θ) (cAd Θ) (cN Θ) σ (-1 : Int32) r7 e) rfl rfl (Nat.le_of_ble_eq_true rfl) ⟨rfl, rfl, by decide, by decide⟩ (fun r7 h8 => ?_)
      exact r_iret C dX12_fit_30 rfl rfl trivial
    · refine r_aload_n C dX12_fit_16 rfl ?_
      refine r_iload_n C dX12_fit_17 rfl ?_
      refine r_iload_n C dX12_fit_18 rfl ?_
      refine r_callV C (st := []) (As := [.int a1, .int a2]) (d := 0) (j := 0) dX12_fit_19 ml_X12_322 vw_X12_fitOf ⟨_, _, _, _, rfl, rfl⟩ (dm0 (by decide)) (fun r9 e => c_m_fitOf Θ.1.2.1 (cW Θ) (cAd Θ) (cN Θ) σ a1 a2 r9 e) rfl rfl (Nat.le_of_ble_eq_true rfl) ⟨rfl, rfl, by decide, by decide⟩ (fun r9 h10 => ?_)
      refine r_goto C 30 dX12_fit_22 (by decide) ?_
      exact r_iret C dX12_fit_30 rfl rfl trivial
theorem c_m_fit (l : Launch) (ω : Wd) (ad : Nat → Nat → Nat) (N : Nat → Nat) (σ : St) (a1 : Int32) (a2 : Int32) : ∀ r : Int32 × St, m_fit σ a1 a2 = some r → Ct l yX12_fit cX12_fit 3 (some .int) ({ frames := 3, cells := 0, slots := 0, locals := 68 } : Room) LM ω ad N [.ref (ω.2.1 0), .int a1, .int a2] σ (some (.int r.1)) r.2 (True) :=
  ct_of (o := fun r : Int32 × St => (some (.int r.1))) (s' := fun r => r.2) (P := fun r => True) [some (.ref (ω.2.1 0)), some (.int a1), some (.int a2)] (by decide) rfl (Nat.le_of_ble_eq_true rfl) (fun Γ C _ _ => w_m_fit (Γ, ω, 3, ad, N, 0, 0) σ a1 a2 C)
theorem ag_LM_37 : AG LM 37 0 8 := ⟨by decide, rfl⟩
theorem ag_LM_38 : AG LM 38 0 2304 := ⟨by decide, rfl⟩
theorem kc_X12_325 : Cond.constant RX12 325 (1000000) ∈ wt := in_wt 1692 (by decide +kernel) (by decide +kernel)
theorem fg_X12_125 : FG LM RX12 125 0 0 55 (1, 37) := ⟨_, _, _, _, _, rfl, rfl, rfl, by decide, uw_X12, (in_wt 1289 (by decide +kernel) (by decide +kernel))⟩
theorem fg_X12_128 : FG LM RX12 128 0 0 57 (1, 38) := ⟨_, _, _, _, _, rfl, rfl, rfl, by decide, uw_X12, (in_wt 1291 (by decide +kernel) (by decide +kernel))⟩
/-- PostsEndModel.private int worth(int, int, int) -/
def m_worth (σ : St) (a1 : Int32) (a2 : Int32) (a3 : Int32) : Option Int32 := (Option.bind (ix 8 a1) fun i1 => (if (a3 >>> (a2 &&& 31)) &&& (1 : Int32) = (1 : Int32) then some (-1 : Int32) else (Option.bind (m_isHere σ (σ.1 0 36 i1)) fun r2 => (if r2 = 0 then some (-1 : Int32) else (Option.bind (ix 8 a2) fun i4 => (Option.bind (m_fitOf σ (σ.1 0 36 i1) (σ.1 0 37 i4)) fun r5 => (if r5 < (30 : Int32) then some (-1 : Int32) else (Option.bind (m_isGuarded σ (σ.1 0 36 i1)) fun r7 => (Option.bind (α := Int32) ((if r7 = 0 then some (0 : Int32) else some (1000000 : Int32))) fun t9 => (Option.bind (ix 8 a2) fun i12 => (Option.bind (m_fitOf σ (σ.1 0 36 i1) (σ.1 0 37 i12)) fun r13 => (Option.bind (ix 2304 (((256 : Int32) * (a1 + (1 : Int32))) + (a3 ||| ((1 : Int32) <<< (a2 &&& 31))))) fun i15 => some (((t9 + (10000 : Int32)) + r13) + (σ.1 0 38 i15))))))))))))))
set_option maxRecDepth 20000 in
set_option maxHeartbeats 4000000 in
theorem w_m_worth (Θ : TT) (σ : St) (a1 : Int32) (a2 : Int32) (a3 : Int32) (C : CX Θ cX12_worth RX12 (some .int) ({ frames := 3, cells := 0, slots := 0, locals := 68 } : Room) 5) : WA LM Θ (fun r : Int32 => Qm LM Θ (some (.int r)) σ (True)) 0 [some (.ref (cF Θ 0)), some (.int a1), some (.int a2), some (.int a3), none] [] σ (m_worth σ a1 a2 a3) := by
  unfold m_worth
  refine r_aload_n C dX12_worth_0 rfl ?_
  refine r_getF0 C dX12_worth_1 fg_X12_122 (by decide) ?_
  refine r_iload_n C dX12_worth_4 rfl ?_
  refine r_iald (α := Unit) C dX12_worth_5 ag_LM_36 (fun i1 => ?_)
  refine r_istore C [some (.ref (cF Θ 0)), some (.int a1), some (.int a2), some (.int a3), some (.int (σ.1 0 36 i1))] dX12_worth_6 rfl (by decide) rfl ?_
  refine r_iload_n C dX12_worth_8 rfl ?_
  refine r_iload_n C dX12_worth_9 rfl ?_
  refine r_ishr C dX12_worth_10 ?_
  refine r_iconst C (1 : Int32) dX12_worth_11 (by decide) ?_
  refine r_iand C dX12_worth_12 ?_
  refine r_iconst C (1 : Int32) dX12_worth_13 (by decide) ?_
  refine r_icmp_eq C 43 dX12_worth_14 (by decide) ?_ ?_
  · refine r_iconst C (-1 : Int32) dX12_worth_43 (by decide) ?_
    exact r_iret C dX12_worth_44 rfl rfl trivial
  · refine r_aload_n C dX12_worth_17 rfl ?_
    refine r_iload C dX12_worth_18 rfl ?_
    refine r_callV C (st := []) (As := [.int (σ.1 0 36 i1)]) (d := 0) (j := 0) dX12_worth_20 ml_X12_200 vw_X12_isHere ⟨_, _, _, _, rfl, rfl⟩ (dm0 (by decide)) (fun r2 e => c_m_isHere Θ.1.2.1 (cW Θ) (cAd Θ) (cN Θ) σ (σ.1 0 36 i1) r2 e) rfl rfl (Nat.le_of_ble_eq_true rfl) ⟨rfl, rfl, by decide, by decide⟩ (fun r2 h3 => ?_)
    refine r_if_eq C 43 dX12_worth_23 (by decide) ?_ ?_
    · refine r_iconst C (-1 : Int32) dX12_worth_43 (by decide) ?_
      exact r_iret C dX12_worth_44 rfl rfl trivial
    · refine r_aload_n C dX12_worth_26 rfl ?_
      refine r_iload C dX12_worth_27 rfl ?_
      refine r_aload_n C dX12_worth_29 rfl ?_
      refine r_getF0 C dX12_worth_30 fg_X12_125 (by decide) ?_
      refine r_iload_n C dX12_worth_33 rfl ?_
      refine r_iald (α := Unit) C dX12_worth_34 ag_LM_37 (fun i4 => ?_)
      refine r_callV C (st := []) (As := [.int (σ.1 0 36 i1), .int (σ.1 0 37 i4)]) (d := 0) (j := 0) dX12_worth_35 ml_X12_322 vw_X12_fitOf ⟨_, _, _, _, rfl, rfl⟩ (dm0 (by decide)) (fun r5 e => c_m_fitOf Θ.1.2.1 (cW Θ) (cAd Θ) (cN Θ) σ (σ.1 0 36 i1) (σ.1 0 37 i4) r5 e) rfl rfl (Nat.le_of_ble_eq_true rfl) ⟨rfl, rfl, by decide, by decide⟩ (fun r5 h6 => ?_)
      refine r_bipush C (30 : Int32) dX12_worth_38 (by decide) ?_
      refine r_icmp_ge C 45 dX12_worth_40 (by decide) ?_ ?_
      · refine r_aload_n C dX12_worth_45 rfl ?_
        refine r_iload C dX12_worth_46 rfl ?_
        refine r_callV C (st := []) (As := [.int (σ.1 0 36 i1)]) (d := 0) (j := 0) dX12_worth_48 ml_X12_252 vw_X12_isGuarded ⟨_, _, _, _, rfl, rfl⟩ (dm0 (by decide)) (fun r7 e => c_m_isGuarded Θ.1.2.1 (cW Θ) (cAd Θ) (cN Θ) σ (σ.1 0 36 i1) r7 e) rfl rfl (Nat.le_of_ble_eq_true rfl) ⟨rfl, rfl, by decide, by decide⟩ (fun r7 h8 => ?_)
        refine WA.join (α := Int32) 61 (fun t9 => [some (.ref (cF Θ 0)), some (.int a1), some (.int a2), some (.int a3), some (.int (σ.1 0 36 i1))]) (fun t9 => [.int t9]) (fun t9 => σ) (fun t9 => True) (fun t9 h10 => ?_) (fun J11 => ?_)
        · refine r_sipush C (10000 : Int32) dX12_worth_61 (by decide) ?_
          refine r_iadd C dX12_worth_64 ?_
          refine r_aload_n C dX12_worth_65 rfl ?_
          refine r_iload C dX12_worth_66 rfl ?_
          refine r_aload_n C dX12_worth_68 rfl ?_
          refine r_getF0 C dX12_worth_69 fg_X12_125 (by decide) ?_
          refine r_iload_n C dX12_worth_72 rfl ?_
          refine r_iald (α := Unit) C dX12_worth_73 ag_LM_37 (fun i12 => ?_)
          refine r_callV C (st := [.int (t9 + (10000 : Int32))]) (As := [.int (σ.1 0 36 i1), .int (σ.1 0 37 i12)]) (d := 0) (j := 0) dX12_worth_74 ml_X12_322 vw_X12_fitOf ⟨_, _, _, _, rfl, rfl⟩ (dm0 (by decide)) (fun r13 e => c_m_fitOf Θ.1.2.1 (cW Θ) (cAd Θ) (cN Θ) σ (σ.1 0 36 i1) (σ.1 0 37 i12) r13 e) rfl rfl (Nat.le_of_ble_eq_true rfl) ⟨rfl, rfl, by decide, by decide⟩ (fun r13 h14 => ?_)
          refine r_iadd C dX12_worth_77 ?_
          refine r_aload_n C dX12_worth_78 rfl ?_
          refine r_getF0 C dX12_worth_79 fg_X12_128 (by decide) ?_
          refine r_sipush C (256 : Int32) dX12_worth_82 (by decide) ?_
          refine r_iload_n C dX12_worth_85 rfl ?_
          refine r_iconst C (1 : Int32) dX12_worth_86 (by decide) ?_
          refine r_iadd C dX12_worth_87 ?_
          refine r_imul C dX12_worth_88 ?_
          refine r_iload_n C dX12_worth_89 rfl ?_
          refine r_iconst C (1 : Int32) dX12_worth_90 (by decide) ?_
          refine r_iload_n C dX12_worth_91 rfl ?_
          refine r_ishl C dX12_worth_92 ?_
          refine r_ior C dX12_worth_93 ?_
          refine r_iadd C dX12_worth_94 ?_
          refine r_iald (α := Unit) C dX12_worth_95 ag_LM_38 (fun i15 => ?_)
          refine r_iadd C dX12_worth_96 ?_
          exact r_iret C dX12_worth_97 rfl rfl trivial
        · refine WA.bif ?_
          refine r_if_eq C 60 dX12_worth_51 (by decide) ?_ ?_
          · refine r_iconst C (0 : Int32) dX12_worth_60 (by decide) ?_
            refine WA.wk (lv' := [some (.ref (cF Θ 0)), some (.int a1), some (.int a2), some (.int a3), some (.int (σ.1 0 36 i1))]) [true, true, true, true, true] rfl ?_
            exact J11 (0 : Int32) trivial
          · refine r_ldcw C dX12_worth_54 kc_X12_325 ?_
            refine r_goto C 61 dX12_worth_57 (by decide) ?_
            refine WA.wk (lv' := [some (.ref (cF Θ 0)), some (.int a1), some (.int a2), some (.int a3), some (.int (σ.1 0 36 i1))]) [true, true, true, true, true] rfl ?_
            exact J11 (1000000 : Int32) trivial
      · refine r_iconst C (-1 : Int32) dX12_worth_43 (by decide) ?_
        exact r_iret C dX12_worth_44 rfl rfl trivial
theorem c_m_worth (l : Launch) (ω : Wd) (ad : Nat → Nat → Nat) (N : Nat → Nat) (σ : St) (a1 : Int32) (a2 : Int32) (a3 : Int32) : ∀ r : Int32, m_worth σ a1 a2 a3 = some r → Ct l yX12_worth cX12_worth 5 (some .int) ({ frames := 3, cells := 0, slots := 0, locals := 68 } : Room) LM ω ad N [.ref (ω.2.1 0), .int a1, .int a2, .int a3] σ (some (.int r)) σ (True) :=
  ct_of (o := fun r : Int32 => (some (.int r))) (s' := fun r => σ) (P := fun r => True) [some (.ref (ω.2.1 0)), some (.int a1), some (.int a2), some (.int a3), none] (by decide) rfl (Nat.le_of_ble_eq_true rfl) (fun Γ C _ _ => w_m_worth (Γ, ω, 5, ad, N, 0, 0) σ a1 a2 a3 C)
