/-- PostsEnd$Ranks.int placeOf(PostsEnd$Person) -/
def p_Ranks_placeOf (σ : St) (a1 : Nat) : Option Int32 := (Option.bind (itr0 (S := Int32) (E := ((Unit) ⊕ (Int32))) (fun s1 => (if s1 < σ.1 0 3 5 then (Option.bind (ix 40 s1) fun i11 => lt1 (σ.2 0 18 i11) fun x9 => (if x9 = (some a1) then some (.inr (.inr s1)) else some (.inl (s1 + (1 : Int32))))) else some (.inr (.inl ())))) FU (0 : Int32)) (Sum.elim (fun e6 => some (-1 : Int32)) some))
set_option maxRecDepth 20000 in
set_option maxHeartbeats 4000000 in
theorem w_p_Ranks_placeOf (Θ : TT) (σ : St) (a1 : Nat) (b1 : a1 < cN Θ 2) (C : CX Θ cX8_placeOf RX8 (some .int) ({ frames := 0, cells := 0, slots := 0, locals := 0 } : Room) 3) : WA LC Θ (fun r : Int32 => Qm LC Θ (some (.int r)) σ (True)) 0 [some (.ref (cF Θ 3)), some (.ref (cAd Θ 2 a1)), none] [] σ (p_Ranks_placeOf σ a1) := by
  unfold p_Ranks_placeOf
  refine r_iconst C (0 : Int32) dX8_placeOf_0 (by decide) ?_
  refine r_istore_n C [some (.ref (cF Θ 3)), some (.ref (cAd Θ 2 a1)), some (.int (0 : Int32))] dX8_placeOf_1 rfl (by decide) rfl ?_
  refine WA.joinL (α := Unit) 28 (fun e6 => [none, none, none]) (fun e6 => []) (fun e6 => σ) (fun e6 => True) (fun e6 h7 => ?_) (fun J8 => ?_)
  · refine WA.sml ?_
    refine r_iconst C (-1 : Int32) dX8_placeOf_28 (by decide) ?_
    exact r_iret C dX8_placeOf_29 rfl rfl trivial
  · refine WA.wk (lv' := [some (.ref (cF Θ 3)), some (.ref (cAd Θ 2 a1)), some (.int (0 : Int32))]) [true, true, true] rfl ?_
    refine WA.itr (S := Int32) 2 (fun s1 => [some (.ref (cF Θ 3)), some (.ref (cAd Θ 2 a1)), some (.int s1)]) (fun s1 => []) (fun s1 => σ) (fun s1 => True) (fun s1 k5 h2 ih3 hx4 => ?_) FU (0 : Int32) trivial
    refine r_iload_n C dX8_placeOf_2 rfl ?_
    refine r_aload_n C dX8_placeOf_3 rfl ?_
    refine r_getI0 C dX8_placeOf_4 fg_X8_31 (by decide) ?_
    refine WA.bif ?_
    refine r_icmp_ge C 28 dX8_placeOf_7 (by decide) ?_ ?_
    · refine WA.wk (lv' := [none, none, none]) [false, false, false] rfl ?_
      exact WA.eqK (hx4 _) (J8 () trivial)
    · refine r_aload_n C dX8_placeOf_10 rfl ?_
      refine r_getF0 C dX8_placeOf_11 fg_X8_11 (by decide) ?_
      refine r_iload_n C dX8_placeOf_14 rfl ?_
      refine WA.asl ?_
      refine r_aald C dX8_placeOf_15 ag_LC_18 rfl (fun x9 h10 => ?_)
      refine r_aload_n C dX8_placeOf_16 rfl ?_
      refine WA.bif ?_
      refine r_acmp_ne C 22 1 x9 (some a1) dX8_placeOf_17 (by decide) (by decide) h10 (fun q e => (Option.some.inj e) ▸ b1) ?_ ?_
      · refine r_iinc C (1 : Int32) [some (.ref (cF Θ 3)), some (.ref (cAd Θ 2 a1)), some (.int (s1 + (1 : Int32)))] dX8_placeOf_22 (by decide) rfl rfl (by decide) rfl ?_
        refine r_goto C 2 dX8_placeOf_25 (by decide) ?_
        refine WA.wk (lv' := [some (.ref (cF Θ 3)), some (.ref (cAd Θ 2 a1)), some (.int (s1 + (1 : Int32)))]) [true, true, true] rfl ?_
        exact ih3 (s1 + (1 : Int32)) trivial
      · refine r_iload_n C dX8_placeOf_20 rfl ?_
        refine WA.eqK (hx4 _) ?_
        exact r_iret C dX8_placeOf_21 rfl rfl trivial
theorem c_p_Ranks_placeOf (l : Launch) (ω : Wd) (ad : Nat → Nat → Nat) (N : Nat → Nat) (σ : St) (a1 : Nat) (b1 : a1 < N 2) : ∀ r : Int32, p_Ranks_placeOf σ a1 = some r → Ct l yX8_placeOf cX8_placeOf 3 (some .int) ({ frames := 0, cells := 0, slots := 0, locals := 0 } : Room) LC ω ad N [.ref (ω.2.1 3), .ref (ad 2 a1)] σ (some (.int r)) σ (True) :=
  ct_of (o := fun r : Int32 => (some (.int r))) (s' := fun r => σ) (P := fun r => True) [some (.ref (ω.2.1 3)), some (.ref (ad 2 a1)), none] (by decide) rfl (Nat.le_of_ble_eq_true rfl) (fun Γ C _ _ => w_p_Ranks_placeOf (Γ, ω, 3, ad, N, 0, 0) σ a1 b1 C)
theorem fg_X8_61 (j : Nat) : FG LC RX8 61 2 j 2 (0, 0) := ⟨_, _, _, _, _, rfl, rfl, rfl, by decide, uw_X5, (in_wt 533 (by decide +kernel) (by decide +kernel))⟩
theorem fg_X8_64 (j : Nat) : FG LC RX8 64 2 j 0 (0, 0) := ⟨_, _, _, _, _, rfl, rfl, rfl, by decide, uw_X5, (in_wt 527 (by decide +kernel) (by decide +kernel))⟩
/-- PostsEnd$Ranks.private static boolean goesFirst(PostsEnd$Person, PostsEnd$Person) -/
def p_Ranks_goesFirst (σ : St) (a0 : Nat) (a1 : Nat) : Option Int32 := (if σ.1 2 a0 2 = σ.1 2 a1 2 then (if σ.1 2 a1 0 < σ.1 2 a0 0 then some (1 : Int32) else some (0 : Int32)) else (if σ.1 2 a1 2 < σ.1 2 a0 2 then some (1 : Int32) else some (0 : Int32)))
set_option maxRecDepth 20000 in
set_option maxHeartbeats 4000000 in
theorem w_p_Ranks_goesFirst (Θ : TT) (σ : St) (a0 : Nat) (a1 : Nat) (b0 : a0 < cN Θ 2) (b1 : a1 < cN Θ 2) (C : CX Θ cX8_goesFirst RX8 (some .boolean) ({ frames := 0, cells := 0, slots := 0, locals := 0 } : Room) 2) : WA LC Θ (fun r : Int32 => Qm LC Θ (some (.int r)) σ (narrow .boolean (.int r) = .int r)) 0 [some (.ref (cAd Θ 2 a0)), some (.ref (cAd Θ 2 a1))] [] σ (p_Ranks_goesFirst σ a0 a1) := by
  unfold p_Ranks_goesFirst
  refine r_aload_n C dX8_goesFirst_0 rfl ?_
  refine r_getI C dX8_goesFirst_1 (fg_X8_61 _) (by decide) b0 ?_
  refine r_aload_n C dX8_goesFirst_4 rfl ?_
  refine r_getI C dX8_goesFirst_5 (fg_X8_61 _) (by decide) b1 ?_
  refine r_icmp_eq C 28 dX8_goesFirst_8 (by decide) ?_ ?_
  · refine r_aload_n C dX8_goesFirst_28 rfl ?_
    refine r_getI C dX8_goesFirst_29 (fg_X8_64 _) (by decide) b0 ?_
    refine r_aload_n C dX8_goesFirst_32 rfl ?_
    refine r_getI C dX8_goesFirst_33 (fg_X8_64 _) (by decide) b1 ?_
    refine r_icmp_le C 43 dX8_goesFirst_36 (by decide) ?_ ?_
    · refine r_iconst C (0 : Int32) dX8_goesFirst_43 (by decide) ?_
      exact r_zret C dX8_goesFirst_44 (show narrow .boolean (.int (0 : Int32)) = .int (0 : Int32) from rfl) rfl rfl (show narrow .boolean (.int (0 : Int32)) = .int (0 : Int32) from rfl)
    · refine r_iconst C (1 : Int32) dX8_goesFirst_39 (by decide) ?_
      refine r_goto C 44 dX8_goesFirst_40 (by decide) ?_
      exact r_zret C dX8_goesFirst_44 (show narrow .boolean (.int (1 : Int32)) = .int (1 : Int32) from rfl) rfl rfl (show narrow .boolean (.int (1 : Int32)) = .int (1 : Int32) from rfl)
  · refine r_aload_n C dX8_goesFirst_11 rfl ?_
    refine r_getI C dX8_goesFirst_12 (fg_X8_61 _) (by decide) b0 ?_
    refine r_aload_n C dX8_goesFirst_15 rfl ?_
    refine r_getI C dX8_goesFirst_16 (fg_X8_61 _) (by decide) b1 ?_
    refine r_icmp_le C 26 dX8_goesFirst_19 (by decide) ?_ ?_
    · refine r_iconst C (0 : Int32) dX8_goesFirst_26 (by decide) ?_
      exact r_zret C dX8_goesFirst_27 (show narrow .boolean (.int (0 : Int32)) = .int (0 : Int32) from rfl) rfl rfl (show narrow .boolean (.int (0 : Int32)) = .int (0 : Int32) from rfl)
    · refine r_iconst C (1 : Int32) dX8_goesFirst_22 (by decide) ?_
      refine r_goto C 27 dX8_goesFirst_23 (by decide) ?_
      exact r_zret C dX8_goesFirst_27 (show narrow .boolean (.int (1 : Int32)) = .int (1 : Int32) from rfl) rfl rfl (show narrow .boolean (.int (1 : Int32)) = .int (1 : Int32) from rfl)
theorem c_p_Ranks_goesFirst (l : Launch) (ω : Wd) (ad : Nat → Nat → Nat) (N : Nat → Nat) (σ : St) (a0 : Nat) (a1 : Nat) (b0 : a0 < N 2) (b1 : a1 < N 2) : ∀ r : Int32, p_Ranks_goesFirst σ a0 a1 = some r → Ct l yX8_goesFirst cX8_goesFirst 2 (some .boolean) ({ frames := 0, cells := 0, slots := 0, locals := 0 } : Room) LC ω ad N [.ref (ad 2 a0), .ref (ad 2 a1)] σ (some (.int r)) σ (narrow .boolean (.int r) = .int r) :=
  ct_of (o := fun r : Int32 => (some (.int r))) (s' := fun r => σ) (P := fun r => narrow .boolean (.int r) = .int r) [some (.ref (ad 2 a0)), some (.ref (ad 2 a1))] (by decide) rfl (Nat.le_of_ble_eq_true rfl) (fun Γ C _ _ => w_p_Ranks_goesFirst (Γ, ω, 2, ad, N, 0, 0) σ a0 a1 b0 b1 C)
theorem sw_X8_goesFirst : SW yX8_goesFirst cX8_goesFirst 2 (some .boolean) 2 := ⟨⟨(in_wt 83 (by decide +kernel) (by decide +kernel)), (in_wt 835 (by decide +kernel) (by decide +kernel)), by decide +kernel⟩, (in_wt 834 (by decide +kernel) (by decide +kernel))⟩
theorem ml_X8_57 : Cond.methodLink RX8 57 yX8_goesFirst ∈ wt := in_wt 833 (by decide +kernel) (by decide +kernel)
/-- PostsEnd$Ranks.private int ahead(int[], int) -/
def p_Ranks_ahead (σ : St) (a1 : Nat) (a2 : Int32) : Option Int32 := (Option.bind (ix 40 a2) fun i3 => lt1 (σ.2 0 18 i3) fun x1 => (Option.bind (itr0 (S := Int32 × Int32) (E := Int32) (fun s4 => (if s4.2 < σ.1 0 3 5 then (Option.bind (ix 40 s4.2) fun i14 => lt1 (σ.2 0 18 i14) fun x12 => (Option.bind (α := Int32) ((Option.elim x1 (some s4.1) fun q18 => (Option.elim x12 (some s4.1) fun q20 => (Option.bind (ix 40 s4.2) fun i22 => (Option.bind (ix 40 a2) fun i23 => (if σ.1 0 a1 i22 < σ.1 0 a1 i23 then some (s4.1 + (1 : Int32)) else (Option.bind (ix 40 s4.2) fun i24 => (Option.bind (ix 40 a2) fun i25 => (if σ.1 0 a1 i24 = σ.1 0 a1 i25 then (Option.bind (p_Ranks_goesFirst σ q20 q18) fun r26 => (if r26 = 0 then some s4.1 else some (s4.1 + (1 : Int32)))) else some s4.1))))))))) fun t15 => some (.inl (t15, s4.2 + (1 : Int32))))) else some (.inr s4.1))) FU ((0 : Int32), (0 : Int32))) fun e9 => some e9))
set_option maxRecDepth 20000 in
set_option maxHeartbeats 4000000 in
theorem w_p_Ranks_ahead (Θ : TT) (σ : St) (a1 : Nat) (a2 : Int32) (b1 : AG LC a1 0 40) (C : CX Θ cX8_ahead RX8 (some .int) ({ frames := 1, cells := 0, slots := 0, locals := 21 } : Room) 7) : WA LC Θ (fun r : Int32 => Qm LC Θ (some (.int r)) σ (True)) 0 [some (.ref (cF Θ 3)), some (.ref (cF Θ a1)), some (.int a2), none, none, none, none] [] σ (p_Ranks_ahead σ a1 a2) := by
  unfold p_Ranks_ahead
  refine r_aload_n C dX8_ahead_0 rfl ?_
  refine r_getF0 C dX8_ahead_1 fg_X8_11 (by decide) ?_
  refine r_iload_n C dX8_ahead_4 rfl ?_
  refine r_aald C dX8_ahead_5 ag_LC_18 rfl (fun x1 h2 => ?_)
  refine r_astore_n C (x := Option.map (cAd Θ 2) x1) [some (.ref (cF Θ 3)), some (.ref (cF Θ a1)), some (.int a2), some (va_rf (Option.map (cAd Θ 2) x1)), none, none, none] dX8_ahead_6 rfl (by decide) rfl ?_
  refine r_iconst C (0 : Int32) dX8_ahead_7 (by decide) ?_
  refine r_istore C [some (.ref (cF Θ 3)), some (.ref (cF Θ a1)), some (.int a2), some (va_rf (Option.map (cAd Θ 2) x1)), some (.int (0 : Int32)), none, none] dX8_ahead_8 rfl (by decide) (lvok_q (x := Option.map (cAd Θ 2) x1) rfl) ?_
  refine r_iconst C (0 : Int32) dX8_ahead_10 (by decide) ?_
  refine r_istore C [some (.ref (cF Θ 3)), some (.ref (cF Θ a1)), some (.int a2), some (va_rf (Option.map (cAd Θ 2) x1)), some (.int (0 : Int32)), some (.int (0 : Int32)), none] dX8_ahead_11 rfl (by decide) rfl ?_
  refine WA.join (α := Int32) 78 (fun e9 => [none, none, none, none, some (.int e9), none, none]) (fun e9 => []) (fun e9 => σ) (fun e9 => True) (fun e9 h10 => ?_) (fun J11 => ?_)
  · refine r_iload C dX8_ahead_78 rfl ?_
    exact r_iret C dX8_ahead_80 rfl rfl trivial
  · refine WA.wk (lv' := [some (.ref (cF Θ 3)), some (.ref (cF Θ a1)), some (.int a2), some (va_rf (Option.map (cAd Θ 2) x1)), some (.int (0 : Int32)), some (.int (0 : Int32)), none]) [true, true, true, true, true, true, false] rfl ?_
    refine WA.itr (S := Int32 × Int32) 13 (fun s4 => [some (.ref (cF Θ 3)), some (.ref (cF Θ a1)), some (.int a2), some (va_rf (Option.map (cAd Θ 2) x1)), some (.int s4.1), some (.int s4.2), none]) (fun s4 => []) (fun s4 => σ) (fun s4 => True) (fun s4 k8 h5 ih6 hx7 => ?_) FU ((0 : Int32), (0 : Int32)) trivial
    refine r_iload C dX8_ahead_13 rfl ?_
    refine r_aload_n C dX8_ahead_15 rfl ?_
    refine r_getI0 C dX8_ahead_16 fg_X8_31 (by decide) ?_
    refine WA.bif ?_
    refine r_icmp_ge C 78 dX8_ahead_19 (by decide) ?_ ?_
    · refine WA.wk (lv' := [none, none, none, none, some (.int s4.1), none, none]) [false, false, false, false, true, false, false] rfl ?_
      exact WA.eqK (hx7 _) (J11 s4.1 trivial)
    · refine r_aload_n C dX8_ahead_22 rfl ?_
      refine r_getF0 C dX8_ahead_23 fg_X8_11 (by decide) ?_
      refine r_iload C dX8_ahead_26 rfl ?_
      refine WA.asl ?_
      refine r_aald C dX8_ahead_28 ag_LC_18 rfl (fun x12 h13 => ?_)
      refine r_astore C (x := Option.map (cAd Θ 2) x12) [some (.ref (cF Θ 3)), some (.ref (cF Θ a1)), some (.int a2), some (va_rf (Option.map (cAd Θ 2) x1)), some (.int s4.1), some (.int s4.2), some (va_rf (Option.map (cAd Θ 2) x12))] dX8_ahead_29 rfl (by decide) rfl ?_
      refine r_aload_nQ C (x := Option.map (cAd Θ 2) x1) dX8_ahead_31 rfl ?_
      refine WA.asc ?_
      refine WA.join (α := Int32) 72 (fun t15 => [some (.ref (cF Θ 3)), some (.ref (cF Θ a1)), some (.int a2), some (va_rf (Option.map (cAd Θ 2) x1)), some (.int t15), some (.int s4.2), none]) (fun t15 => []) (fun t15 => σ) (fun t15 => True) (fun t15 h16 => ?_) (fun J17 => ?_)
      · refine r_iinc C (1 : Int32) [some (.ref (cF Θ 3)), some (.ref (cF Θ a1)), some (.int a2), some (va_rf (Option.map (cAd Θ 2) x1)), some (.int t15), some (.int (s4.2 + (1 : Int32))), none] dX8_ahead_72 (by decide) rfl rfl (by decide) rfl ?_
        refine r_goto C 13 dX8_ahead_75 (by decide) ?_
        refine WA.wk (lv' := [some (.ref (cF Θ 3)), some (.ref (cF Θ a1)), some (.int a2), some (va_rf (Option.map (cAd Θ 2) x1)), some (.int t15), some (.int (s4.2 + (1 : Int32))), none]) [true, true, true, true, true, true, false] rfl ?_
        exact ih6 (t15, s4.2 + (1 : Int32)) trivial
      · refine WA.bel ?_
        rcases x1 with _ | q18
        · refine r_ifnullN C 72 dX8_ahead_32 (by decide) ?_
          refine WA.wk (lv' := [some (.ref (cF Θ 3)), some (.ref (cF Θ a1)), some (.int a2), some (.null), some (.int s4.1), some (.int s4.2), none]) [true, true, true, true, true, true, false] rfl ?_
          exact J17 s4.1 trivial
        · have h19 := h2 q18 rfl
          refine r_ifnullS C dX8_ahead_32 ?_
          refine r_aloadQ C (x := Option.map (cAd Θ 2) x12) dX8_ahead_35 rfl ?_
          refine WA.bel ?_
          rcases x12 with _ | q20
          · refine r_ifnullN C 72 dX8_ahead_37 (by decide) ?_
            refine WA.wk (lv' := [some (.ref (cF Θ 3)), some (.ref (cF Θ a1)), some (.int a2), some (.ref (cAd Θ 2 q18)), some (.int s4.1), some (.int s4.2), none]) [true, true, true, true, true, true, false] rfl ?_
            exact J17 s4.1 trivial
          · have h21 := h13 q20 rfl
            refine r_ifnullS C dX8_ahead_37 ?_
            refine r_aload_n C dX8_ahead_40 rfl ?_
            refine r_iload C dX8_ahead_41 rfl ?_
            refine WA.asc ?_
            refine r_iald (α := Unit) C dX8_ahead_43 b1 (fun i22 => ?_)
            refine r_aload_n C dX8_ahead_44 rfl ?_
            refine r_iload_n C dX8_ahead_45 rfl ?_
            refine WA.asc ?_
            refine r_iald (α := Unit) C dX8_ahead_46 b1 (fun i23 => ?_)
            refine WA.bif ?_
            refine r_icmp_lt C 69 dX8_ahead_47 (by decide) ?_ ?_
            · refine r_iinc C (1 : Int32) [some (.ref (cF Θ 3)), some (.ref (cF Θ a1)), some (.int a2), some (.ref (cAd Θ 2 q18)), some (.int (s4.1 + (1 : Int32))), some (.int s4.2), some (.ref (cAd Θ 2 q20))] dX8_ahead_69 (by decide) rfl rfl (by decide) rfl ?_
              refine WA.wk (lv' := [some (.ref (cF Θ 3)), some (.ref (cF Θ a1)), some (.int a2), some (.ref (cAd Θ 2 q18)), some (.int (s4.1 + (1 : Int32))), some (.int s4.2), none]) [true, true, true, true, true, true, false] rfl ?_
              exact J17 (s4.1 + (1 : Int32)) trivial
            · refine r_aload_n C dX8_ahead_50 rfl ?_
              refine r_iload C dX8_ahead_51 rfl ?_
              refine WA.asc ?_
              refine r_iald (α := Unit) C dX8_ahead_53 b1 (fun i24 => ?_)
              refine r_aload_n C dX8_ahead_54 rfl ?_
              refine r_iload_n C dX8_ahead_55 rfl ?_
              refine WA.asc ?_
              refine r_iald (α := Unit) C dX8_ahead_56 b1 (fun i25 => ?_)
              refine WA.bif ?_
              refine r_icmp_ne C 72 dX8_ahead_57 (by decide) ?_ ?_
              · refine WA.wk (lv' := [some (.ref (cF Θ 3)), some (.ref (cF Θ a1)), some (.int a2), some (.ref (cAd Θ 2 q18)), some (.int s4.1), some (.int s4.2), none]) [true, true, true, true, true, true, false] rfl ?_
                exact J17 s4.1 trivial
              · refine r_aload C dX8_ahead_60 rfl ?_
                refine r_aload_n C dX8_ahead_62 rfl ?_
                refine WA.asc ?_
                refine r_callS C (st := []) (As := [.ref (cAd Θ 2 q20), .ref (cAd Θ 2 q18)]) dX8_ahead_63 ml_X8_57 sw_X8_goesFirst (fun r26 e => c_p_Ranks_goesFirst Θ.1.2.1 (cW Θ) (cAd Θ) (cN Θ) σ q20 q18 h21 h19 r26 e) rfl rfl (Nat.le_of_ble_eq_true rfl) ⟨rfl, rfl, by decide, by decide⟩ (fun r26 h27 => ?_)
                refine WA.bif ?_
                refine r_if_eq C 72 dX8_ahead_66 (by decide) ?_ ?_
                · refine WA.wk (lv' := [some (.ref (cF Θ 3)), some (.ref (cF Θ a1)), some (.int a2), some (.ref (cAd Θ 2 q18)), some (.int s4.1), some (.int s4.2), none]) [true, true, true, true, true, true, false] rfl ?_
                  exact J17 s4.1 trivial
                · refine r_iinc C (1 : Int32) [some (.ref (cF Θ 3)), some (.ref (cF Θ a1)), some (.int a2), some (.ref (cAd Θ 2 q18)), some (.int (s4.1 + (1 : Int32))), some (.int s4.2), some (.ref (cAd Θ 2 q20))] dX8_ahead_69 (by decide) rfl rfl (by decide) rfl ?_
                  refine WA.wk (lv' := [some (.ref (cF Θ 3)), some (.ref (cF Θ a1)), some (.int a2), some (.ref (cAd Θ 2 q18)), some (.int (s4.1 + (1 : Int32))), some (.int s4.2), none]) [true, true, true, true, true, true, false] rfl ?_
                  exact J17 (s4.1 + (1 : Int32)) trivial
theorem c_p_Ranks_ahead (l : Launch) (ω : Wd) (ad : Nat → Nat → Nat) (N : Nat → Nat) (σ : St) (a1 : Nat) (a2 : Int32) (b1 : AG LC a1 0 40) : ∀ r : Int32, p_Ranks_ahead σ a1 a2 = some r → Ct l yX8_ahead cX8_ahead 7 (some .int) ({ frames := 1, cells := 0, slots := 0, locals := 21 } : Room) LC ω ad N [.ref (ω.2.1 3), .ref (ω.2.1 a1), .int a2] σ (some (.int r)) σ (True) :=
  ct_of (o := fun r : Int32 => (some (.int r))) (s' := fun r => σ) (P := fun r => True) [some (.ref (ω.2.1 3)), some (.ref (ω.2.1 a1)), some (.int a2), none, none, none, none] (by decide) rfl (Nat.le_of_ble_eq_true rfl) (fun Γ C _ _ => w_p_Ranks_ahead (Γ, ω, 7, ad, N, 0, 0) σ a1 a2 b1 C)
theorem vw_X8_ahead : VW yX8_ahead cX8_ahead 7 (some .int) 2 := ⟨⟨(in_wt 83 (by decide +kernel) (by decide +kernel)), (in_wt 832 (by decide +kernel) (by decide +kernel)), by decide +kernel⟩, (in_wt 831 (by decide +kernel) (by decide +kernel)), (in_wt 7 (by decide +kernel) (by decide +kernel))⟩
theorem ml_X8_67 : Cond.methodLink RX8 67 yX8_ahead ∈ wt := in_wt 829 (by decide +kernel) (by decide +kernel)
/-- PostsEnd$Ranks.int goesAt(int, int) -/
def p_Ranks_goesAt (σ : St) (a1 : Int32) (a2 : Int32) : Option Int32 := (if a2 < 0 then some (-9 : Int32) else (if a2 < a1 then (Option.bind (itr0 (S := Int32) (E := ((Unit) ⊕ (Int32))) (fun s1 => (if s1 < σ.1 0 3 5 then (Option.bind (ix 40 s1) fun i11 => lt1 (σ.2 0 18 i11) fun x9 => (Option.elim x9 (some (.inl (s1 + (1 : Int32)))) fun q12 => (Option.bind (p_Ranks_ahead σ 19 s1) fun r14 => (if r14 = a2 then some (.inr (.inr (σ.1 2 q12 0))) else some (.inl (s1 + (1 : Int32))))))) else some (.inr (.inl ())))) FU (0 : Int32)) (Sum.elim (fun e6 => some (-9 : Int32)) some)) else some (-9 : Int32)))
set_option maxRecDepth 20000 in
set_option maxHeartbeats 4000000 in
theorem w_p_Ranks_goesAt (Θ : TT) (σ : St) (a1 : Int32) (a2 : Int32) (C : CX Θ cX8_goesAt RX8 (some .int) ({ frames := 2, cells := 0, slots := 0, locals := 47 } : Room) 5) : WA LC Θ (fun r : Int32 => Qm LC Θ (some (.int r)) σ (True)) 0 [some (.ref (cF Θ 3)), some (.int a1), some (.int a2), none, none] [] σ (p_Ranks_goesAt σ a1 a2) := by
  unfold p_Ranks_goesAt
  refine r_iload_n C dX8_goesAt_0 rfl ?_
  refine r_if_lt C 9 dX8_goesAt_1 (by decide) ?_ ?_
  · refine r_bipush C (-9 : Int32) dX8_goesAt_9 (by decide) ?_
    exact r_iret C dX8_goesAt_11 rfl rfl trivial
  · refine r_iload_n C dX8_goesAt_4 rfl ?_
    refine r_iload_n C dX8_goesAt_5 rfl ?_
    refine r_icmp_lt C 12 dX8_goesAt_6 (by decide) ?_ ?_
    · refine r_iconst C (0 : Int32) dX8_goesAt_12 (by decide) ?_
      refine r_istore_n C [some (.ref (cF Θ 3)), some (.int a1), some (.int a2), some (.int (0 : Int32)), none] dX8_goesAt_13 rfl (by decide) rfl ?_
      refine WA.joinL (α := Unit) 60 (fun e6 => [none, none, none, none, none]) (fun e6 => []) (fun e6 => σ) (fun e6 => True) (fun e6 h7 => ?_) (fun J8 => ?_)
      · refine WA.sml ?_
        refine r_bipush C (-9 : Int32) dX8_goesAt_60 (by decide) ?_
        exact r_iret C dX8_goesAt_62 rfl rfl trivial
      · refine WA.wk (lv' := [some (.ref (cF Θ 3)), none, some (.int a2), some (.int (0 : Int32)), none]) [true, false, true, true, false] rfl ?_
        refine WA.itr (S := Int32) 14 (fun s1 => [some (.ref (cF Θ 3)), none, some (.int a2), some (.int s1), none]) (fun s1 => []) (fun s1 => σ) (fun s1 => True) (fun s1 k5 h2 ih3 hx4 => ?_) FU (0 : Int32) trivial
        refine r_iload_n C dX8_goesAt_14 rfl ?_
        refine r_aload_n C dX8_goesAt_15 rfl ?_
        refine r_getI0 C dX8_goesAt_16 fg_X8_31 (by decide) ?_
        refine WA.bif ?_
        refine r_icmp_ge C 60 dX8_goesAt_19 (by decide) ?_ ?_
        · refine WA.wk (lv' := [none, none, none, none, none]) [false, false, false, false, false] rfl ?_
          exact WA.eqK (hx4 _) (J8 () trivial)
        · refine r_aload_n C dX8_goesAt_22 rfl ?_
          refine r_getF0 C dX8_goesAt_23 fg_X8_11 (by decide) ?_
          refine r_iload_n C dX8_goesAt_26 rfl ?_
          refine WA.asl ?_
          refine r_aald C dX8_goesAt_27 ag_LC_18 rfl (fun x9 h10 => ?_)
          refine r_astore C (x := Option.map (cAd Θ 2) x9) [some (.ref (cF Θ 3)), none, some (.int a2), some (.int s1), some (va_rf (Option.map (cAd Θ 2) x9))] dX8_goesAt_28 rfl (by decide) rfl ?_
          refine r_aloadQ C (x := Option.map (cAd Θ 2) x9) dX8_goesAt_30 rfl ?_
          refine WA.bel ?_
          rcases x9 with _ | q12
          · refine r_ifnullN C 54 dX8_goesAt_32 (by decide) ?_
            refine r_iinc C (1 : Int32) [some (.ref (cF Θ 3)), none, some (.int a2), some (.int (s1 + (1 : Int32))), some (.null)] dX8_goesAt_54 (by decide) rfl rfl (by decide) rfl ?_
            refine r_goto C 14 dX8_goesAt_57 (by decide) ?_
            refine WA.wk (lv' := [some (.ref (cF Θ 3)), none, some (.int a2), some (.int (s1 + (1 : Int32))), none]) [true, false, true, true, false] rfl ?_
            exact ih3 (s1 + (1 : Int32)) trivial
          · have h13 := h10 q12 rfl
            refine r_ifnullS C dX8_goesAt_32 ?_
            refine r_aload_n C dX8_goesAt_35 rfl ?_
            refine r_aload_n C dX8_goesAt_36 rfl ?_
            refine r_getF0 C dX8_goesAt_37 fg_X8_17 (by decide) ?_
            refine r_iload_n C dX8_goesAt_40 rfl ?_
            refine WA.asc ?_
            refine r_callV C (st := []) (As := [.ref (cF Θ 19), .int s1]) (d := 0) (j := 3) dX8_goesAt_41 ml_X8_67 vw_X8_ahead ⟨_, _, _, _, rfl, rfl⟩ (dm0 (by decide)) (fun r14 e => c_p_Ranks_ahead Θ.1.2.1 (cW Θ) (cAd Θ) (cN Θ) σ 19 s1 ag_LC_19 r14 e) rfl rfl (Nat.le_of_ble_eq_true rfl) ⟨rfl, rfl, by decide, by decide⟩ (fun r14 h15 => ?_)
            refine r_iload_n C dX8_goesAt_44 rfl ?_
            refine WA.bif ?_
            refine r_icmp_ne C 54 dX8_goesAt_45 (by decide) ?_ ?_
            · refine r_iinc C (1 : Int32) [some (.ref (cF Θ 3)), none, some (.int a2), some (.int (s1 + (1 : Int32))), some (.ref (cAd Θ 2 q12))] dX8_goesAt_54 (by decide) rfl rfl (by decide) rfl ?_
              refine r_goto C 14 dX8_goesAt_57 (by decide) ?_
              refine WA.wk (lv' := [some (.ref (cF Θ 3)), none, some (.int a2), some (.int (s1 + (1 : Int32))), none]) [true, false, true, true, false] rfl ?_
              exact ih3 (s1 + (1 : Int32)) trivial
            · refine r_aload C dX8_goesAt_48 rfl ?_
              refine r_getI C dX8_goesAt_50 (fg_X8_64 _) (by decide) h13 ?_
              refine WA.eqK (hx4 _) ?_
              exact r_iret C dX8_goesAt_53 rfl rfl trivial
    · refine r_bipush C (-9 : Int32) dX8_goesAt_9 (by decide) ?_
      exact r_iret C dX8_goesAt_11 rfl rfl trivial
theorem c_p_Ranks_goesAt (l : Launch) (ω : Wd) (ad : Nat → Nat → Nat) (N : Nat → Nat) (σ : St) (a1 : Int32) (a2 : Int32) : ∀ r : Int32, p_Ranks_goesAt σ a1 a2 = some r → Ct l yX8_goesAt cX8_goesAt 5 (some .int) ({ frames := 2, cells := 0, slots := 0, locals := 47 } : Room) LC ω ad N [.ref (ω.2.1 3), .int a1, .int a2] σ (some (.int r)) σ (True) :=
  ct_of (o := fun r : Int32 => (some (.int r))) (s' := fun r => σ) (P := fun r => True) [some (.ref (ω.2.1 3)), some (.int a1), some (.int a2), none, none] (by decide) rfl (Nat.le_of_ble_eq_true rfl) (fun Γ C _ _ => w_p_Ranks_goesAt (Γ, ω, 5, ad, N, 0, 0) σ a1 a2 C)
theorem ag_LC_21 : AG LC 21 0 40 := ⟨by decide, rfl⟩
theorem fg_X8_24 : FG LC RX8 24 0 3 4 (1, 21) := ⟨_, _, _, _, _, rfl, rfl, rfl, by decide, uw_X8, (in_wt 216 (by decide +kernel) (by decide +kernel))⟩
theorem ml_X8_82 : Cond.methodLink RX8 82 yX3_partAsOf ∈ wt := in_wt 1155 (by decide +kernel) (by decide +kernel)
/-- PostsEnd$Ranks.private void gatherGrowth(int) -/
def p_Ranks_gatherGrowth (σ : St) (a1 : Int32) : Option St := (Option.bind (itr0 (S := Int32 × St) (E := St) (fun s1 => (if s1.1 < s1.2.1 0 3 5 then (Option.bind (ix 40 s1.1) fun i11 => lt1 (s1.2.2 0 18 i11) fun x9 => (Option.bind (α := Int32) ((Option.elim x9 (some (0 : Int32)) fun q17 => (Option.bind (p_Firm_partAsOf s1.2 q17 a1 (s1.2.1 0 1 0)) fun r19 => some r19))) fun t12 => (Option.bind (ix 40 s1.1) fun i15 => (lt1 (sx s1.2 0 21 i15 t12) fun σ16 => some (.inl (s1.1 + (1 : Int32), σ16)))))) else some (.inr s1.2))) FU ((0 : Int32), σ)) fun e6 => some e6)
set_option maxRecDepth 20000 in
set_option maxHeartbeats 4000000 in
theorem w_p_Ranks_gatherGrowth (Θ : TT) (σ : St) (a1 : Int32) (C : CX Θ cX8_gatherGrowth RX8 none ({ frames := 3, cells := 0, slots := 0, locals := 69 } : Room) 4) : WA LC Θ (fun r : St => Qm LC Θ none r (True)) 0 [some (.ref (cF Θ 3)), some (.int a1), none, none] [] σ (p_Ranks_gatherGrowth σ a1) := by
  unfold p_Ranks_gatherGrowth
  refine r_iconst C (0 : Int32) dX8_gatherGrowth_0 (by decide) ?_
  refine r_istore_n C [some (.ref (cF Θ 3)), some (.int a1), some (.int (0 : Int32)), none] dX8_gatherGrowth_1 rfl (by decide) rfl ?_
  refine WA.join (α := St) 53 (fun e6 => [none, none, none, none]) (fun e6 => []) (fun e6 => e6) (fun e6 => True) (fun e6 h7 => ?_) (fun J8 => ?_)
  · exact r_vret C dX8_gatherGrowth_53 rfl rfl trivial
  · refine WA.wk (lv' := [some (.ref (cF Θ 3)), some (.int a1), some (.int (0 : Int32)), none]) [true, true, true, false] rfl ?_
    refine WA.itr (S := Int32 × St) 2 (fun s1 => [some (.ref (cF Θ 3)), some (.int a1), some (.int s1.1), none]) (fun s1 => []) (fun s1 => s1.2) (fun s1 => True) (fun s1 k5 h2 ih3 hx4 => ?_) FU ((0 : Int32), σ) trivial
    refine r_iload_n C dX8_gatherGrowth_2 rfl ?_
    refine r_aload_n C dX8_gatherGrowth_3 rfl ?_
    refine r_getI0 C dX8_gatherGrowth_4 fg_X8_31 (by decide) ?_
    refine WA.bif ?_
    refine r_icmp_ge C 53 dX8_gatherGrowth_7 (by decide) ?_ ?_
    · refine WA.wk (lv' := [none, none, none, none]) [false, false, false, false] rfl ?_
      exact WA.eqK (hx4 _) (J8 s1.2 trivial)
    · refine r_aload_n C dX8_gatherGrowth_10 rfl ?_
      refine r_getF0 C dX8_gatherGrowth_11 fg_X8_11 (by decide) ?_
      refine r_iload_n C dX8_gatherGrowth_14 rfl ?_
      refine WA.asl ?_
      refine r_aald C dX8_gatherGrowth_15 ag_LC_18 rfl (fun x9 h10 => ?_)
      refine r_astore_n C (x := Option.map (cAd Θ 2) x9) [some (.ref (cF Θ 3)), some (.int a1), some (.int s1.1), some (va_rf (Option.map (cAd Θ 2) x9))] dX8_gatherGrowth_16 rfl (by decide) rfl ?_
      refine r_aload_n C dX8_gatherGrowth_17 rfl ?_
      refine r_getF0 C dX8_gatherGrowth_18 fg_X8_24 (by decide) ?_
      refine r_iload_n C dX8_gatherGrowth_21 rfl ?_
      refine r_aload_nQ C (x := Option.map (cAd Θ 2) x9) dX8_gatherGrowth_22 rfl ?_
      refine WA.asc ?_
      refine WA.join (α := Int32) 46 (fun t12 => [some (.ref (cF Θ 3)), some (.int a1), some (.int s1.1), none]) (fun t12 => [.int t12, .int s1.1, .ref (cF Θ 21)]) (fun t12 => s1.2) (fun t12 => True) (fun t12 h13 => ?_) (fun J14 => ?_)
      · refine WA.asc ?_
        refine r_iast C dX8_gatherGrowth_46 ag_LC_21 (fun i15 => ?_)
        refine WA.genB (fun σ16 => ?_)
        refine r_iinc C (1 : Int32) [some (.ref (cF Θ 3)), some (.int a1), some (.int (s1.1 + (1 : Int32))), none] dX8_gatherGrowth_47 (by decide) rfl rfl (by decide) rfl ?_
        refine r_goto C 2 dX8_gatherGrowth_50 (by decide) ?_
        refine WA.wk (lv' := [some (.ref (cF Θ 3)), some (.int a1), some (.int (s1.1 + (1 : Int32))), none]) [true, true, true, false] rfl ?_
        exact ih3 (s1.1 + (1 : Int32), σ16) trivial
      · refine WA.bel ?_
        rcases x9 with _ | q17
        · refine r_ifnonnullN C dX8_gatherGrowth_23 ?_
          refine r_iconst C (0 : Int32) dX8_gatherGrowth_26 (by decide) ?_
          refine r_goto C 46 dX8_gatherGrowth_27 (by decide) ?_
          refine WA.wk (lv' := [some (.ref (cF Θ 3)), some (.int a1), some (.int s1.1), none]) [true, true, true, false] rfl ?_
          exact J14 (0 : Int32) trivial
        · have h18 := h10 q17 rfl
          refine r_ifnonnullS C 30 dX8_gatherGrowth_23 (by decide) ?_
          refine r_aload_n C dX8_gatherGrowth_30 rfl ?_
          refine r_getF0 C dX8_gatherGrowth_31 fg_X8_27 (by decide) ?_
          refine r_aload_n C dX8_gatherGrowth_34 rfl ?_
          refine r_iload_n C dX8_gatherGrowth_35 rfl ?_
          refine r_aload_n C dX8_gatherGrowth_36 rfl ?_
          refine r_getF0 C dX8_gatherGrowth_37 fg_X8_27 (by decide) ?_
          refine r_getI0 C dX8_gatherGrowth_40 fg_X8_50 (by decide) ?_
          refine WA.asc ?_
          refine r_callV C (st := [.int s1.1, .ref (cF Θ 21)]) (As := [.ref (cAd Θ 2 q17), .int a1, .int (s1.2.1 0 1 0)]) (d := 0) (j := 1) dX8_gatherGrowth_43 ml_X8_82 vw_X3_partAsOf ⟨_, _, _, _, rfl, rfl⟩ (dm0 (by decide)) (fun r19 e => c_p_Firm_partAsOf Θ.1.2.1 (cW Θ) (cAd Θ) (cN Θ) s1.2 q17 a1 (s1.2.1 0 1 0) h18 r19 e) rfl rfl (Nat.le_of_ble_eq_true rfl) ⟨rfl, rfl, by decide, by decide⟩ (fun r19 h20 => ?_)
          refine WA.wk (lv' := [some (.ref (cF Θ 3)), some (.int a1), some (.int s1.1), none]) [true, true, true, false] rfl ?_
          exact J14 r19 trivial
theorem c_p_Ranks_gatherGrowth (l : Launch) (ω : Wd) (ad : Nat → Nat → Nat) (N : Nat → Nat) (σ : St) (a1 : Int32) : ∀ r : St, p_Ranks_gatherGrowth σ a1 = some r → Ct l yX8_gatherGrowth cX8_gatherGrowth 4 none ({ frames := 3, cells := 0, slots := 0, locals := 69 } : Room) LC ω ad N [.ref (ω.2.1 3), .int a1] σ none r (True) :=
  ct_of (o := fun r : St => none) (s' := fun r => r) (P := fun r => True) [some (.ref (ω.2.1 3)), some (.int a1), none, none] (by decide) rfl (Nat.le_of_ble_eq_true rfl) (fun Γ C _ _ => w_p_Ranks_gatherGrowth (Γ, ω, 4, ad, N, 0, 0) σ a1 C)
theorem ag_LC_20 : AG LC 20 0 40 := ⟨by decide, rfl⟩
theorem fg_X8_21 : FG LC RX8 21 0 3 3 (1, 20) := ⟨_, _, _, _, _, rfl, rfl, rfl, by decide, uw_X8, (in_wt 215 (by decide +kernel) (by decide +kernel))⟩
/-- PostsEnd$Ranks.private boolean goesWith(int, int, int) -/
def p_Ranks_goesWith (σ : St) (a1 : Int32) (a2 : Int32) (a3 : Int32) : Option (Int32 × St) := (Option.bind (itr0 (S := Int32 × St) (E := St) (fun s1 => (if s1.1 < s1.2.1 0 3 5 then (Option.bind (ix 40 s1.1) fun i11 => (Option.bind (ix 40 s1.1) fun i12 => (Option.bind (ix 40 s1.1) fun i13 => (lt1 (sx s1.2 0 20 i13 ((s1.2.1 0 19 i11) + (a1 * (s1.2.1 0 21 i12)))) fun σ14 => some (.inl (s1.1 + (1 : Int32), σ14)))))) else some (.inr s1.2))) FU ((0 : Int32), σ)) fun e6 => (Option.bind (p_Ranks_ahead e6 20 a2) fun r9 => (if r9 < a3 then some ((1 : Int32), e6) else some ((0 : Int32), e6))))
set_option maxRecDepth 20000 in
set_option maxHeartbeats 4000000 in
theorem w_p_Ranks_goesWith (Θ : TT) (σ : St) (a1 : Int32) (a2 : Int32) (a3 : Int32) (C : CX Θ cX8_goesWith RX8 (some .boolean) ({ frames := 2, cells := 0, slots := 0, locals := 47 } : Room) 5) : WA LC Θ (fun r : Int32 × St => Qm LC Θ (some (.int r.1)) r.2 (narrow .boolean (.int r.1) = .int r.1)) 0 [some (.ref (cF Θ 3)), some (.int a1), some (.int a2), some (.int a3), none] [] σ (p_Ranks_goesWith σ a1 a2 a3) := by
  unfold p_Ranks_goesWith
  refine r_iconst C (0 : Int32) dX8_goesWith_0 (by decide) ?_
  refine r_istore C [some (.ref (cF Θ 3)), some (.int a1), some (.int a2), some (.int a3), some (.int (0 : Int32))] dX8_goesWith_1 rfl (by decide) rfl ?_
  refine WA.join (α := St) 42 (fun e6 => [some (.ref (cF Θ 3)), none, some (.int a2), some (.int a3), none]) (fun e6 => []) (fun e6 => e6) (fun e6 => True) (fun e6 h7 => ?_) (fun J8 => ?_)
  · refine r_aload_n C dX8_goesWith_42 rfl ?_
    refine r_aload_n C dX8_goesWith_43 rfl ?_
    refine r_getF0 C dX8_goesWith_44 fg_X8_21 (by decide) ?_
    refine r_iload_n C dX8_goesWith_47 rfl ?_
    refine r_callV C (st := []) (As := [.ref (cF Θ 20), .int a2]) (d := 0) (j := 3) dX8_goesWith_48 ml_X8_67 vw_X8_ahead ⟨_, _, _, _, rfl, rfl⟩ (dm0 (by decide)) (fun r9 e => c_p_Ranks_ahead Θ.1.2.1 (cW Θ) (cAd Θ) (cN Θ) e6 20 a2 ag_LC_20 r9 e) rfl rfl (Nat.le_of_ble_eq_true rfl) ⟨rfl, rfl, by decide, by decide⟩ (fun r9 h10 => ?_)
    refine r_iload_n C dX8_goesWith_51 rfl ?_
    refine r_icmp_ge C 59 dX8_goesWith_52 (by decide) ?_ ?_
    · refine r_iconst C (0 : Int32) dX8_goesWith_59 (by decide) ?_
      exact r_zret C dX8_goesWith_60 (show narrow .boolean (.int (0 : Int32)) = .int (0 : Int32) from rfl) rfl rfl (show narrow .boolean (.int (0 : Int32)) = .int (0 : Int32) from rfl)
    · refine r_iconst C (1 : Int32) dX8_goesWith_55 (by decide) ?_
      refine r_goto C 60 dX8_goesWith_56 (by decide) ?_
      exact r_zret C dX8_goesWith_60 (show narrow .boolean (.int (1 : Int32)) = .int (1 : Int32) from rfl) rfl rfl (show narrow .boolean (.int (1 : Int32)) = .int (1 : Int32) from rfl)
  · refine WA.wk (lv' := [some (.ref (cF Θ 3)), some (.int a1), some (.int a2), some (.int a3), some (.int (0 : Int32))]) [true, true, true, true, true] rfl ?_
    refine WA.itr (S := Int32 × St) 3 (fun s1 => [some (.ref (cF Θ 3)), some (.int a1), some (.int a2), some (.int a3), some (.int s1.1)]) (fun s1 => []) (fun s1 => s1.2) (fun s1 => True) (fun s1 k5 h2 ih3 hx4 => ?_) FU ((0 : Int32), σ) trivial
    refine r_iload C dX8_goesWith_3 rfl ?_
    refine r_aload_n C dX8_goesWith_5 rfl ?_
    refine r_getI0 C dX8_goesWith_6 fg_X8_31 (by decide) ?_
    refine WA.bif ?_
    refine r_icmp_ge C 42 dX8_goesWith_9 (by decide) ?_ ?_
    · refine WA.wk (lv' := [some (.ref (cF Θ 3)), none, some (.int a2), some (.int a3), none]) [true, false, true, true, false] rfl ?_
      exact WA.eqK (hx4 _) (J8 s1.2 trivial)
    · refine r_aload_n C dX8_goesWith_12 rfl ?_
      refine r_getF0 C dX8_goesWith_13 fg_X8_21 (by decide) ?_
      refine r_iload C dX8_goesWith_16 rfl ?_
      refine r_aload_n C dX8_goesWith_18 rfl ?_
      refine r_getF0 C dX8_goesWith_19 fg_X8_17 (by decide) ?_
      refine r_iload C dX8_goesWith_22 rfl ?_
      refine WA.asc ?_
      refine r_iald (α := Unit) C dX8_goesWith_24 ag_LC_19 (fun i11 => ?_)
      refine r_iload_n C dX8_goesWith_25 rfl ?_
      refine r_aload_n C dX8_goesWith_26 rfl ?_
      refine r_getF0 C dX8_goesWith_27 fg_X8_24 (by decide) ?_
      refine r_iload C dX8_goesWith_30 rfl ?_
      refine WA.asc ?_
      refine r_iald (α := Unit) C dX8_goesWith_32 ag_LC_21 (fun i12 => ?_)
      refine r_imul C dX8_goesWith_33 ?_
      refine r_iadd C dX8_goesWith_34 ?_
      refine WA.asc ?_
      refine r_iast C dX8_goesWith_35 ag_LC_20 (fun i13 => ?_)
      refine WA.genB (fun σ14 => ?_)
      refine r_iinc C (1 : Int32) [some (.ref (cF Θ 3)), some (.int a1), some (.int a2), some (.int a3), some (.int (s1.1 + (1 : Int32)))] dX8_goesWith_36 (by decide) rfl rfl (by decide) rfl ?_
      refine r_goto C 3 dX8_goesWith_39 (by decide) ?_
      refine WA.wk (lv' := [some (.ref (cF Θ 3)), some (.int a1), some (.int a2), some (.int a3), some (.int (s1.1 + (1 : Int32)))]) [true, true, true, true, true] rfl ?_
      exact ih3 (s1.1 + (1 : Int32), σ14) trivial
theorem c_p_Ranks_goesWith (l : Launch) (ω : Wd) (ad : Nat → Nat → Nat) (N : Nat → Nat) (σ : St) (a1 : Int32) (a2 : Int32) (a3 : Int32) : ∀ r : Int32 × St, p_Ranks_goesWith σ a1 a2 a3 = some r → Ct l yX8_goesWith cX8_goesWith 5 (some .boolean) ({ frames := 2, cells := 0, slots := 0, locals := 47 } : Room) LC ω ad N [.ref (ω.2.1 3), .int a1, .int a2, .int a3] σ (some (.int r.1)) r.2 (narrow .boolean (.int r.1) = .int r.1) :=
  ct_of (o := fun r : Int32 × St => (some (.int r.1))) (s' := fun r => r.2) (P := fun r => narrow .boolean (.int r.1) = .int r.1) [some (.ref (ω.2.1 3)), some (.int a1), some (.int a2), some (.int a3), none] (by decide) rfl (Nat.le_of_ble_eq_true rfl) (fun Γ C _ _ => w_p_Ranks_goesWith (Γ, ω, 5, ad, N, 0, 0) σ a1 a2 a3 C)
theorem vw_X8_gatherGrowth : VW yX8_gatherGrowth cX8_gatherGrowth 4 none 1 := ⟨⟨(in_wt 83 (by decide +kernel) (by decide +kernel)), (in_wt 1154 (by decide +kernel) (by decide +kernel)), by decide +kernel⟩, (in_wt 1153 (by decide +kernel) (by decide +kernel)), (in_wt 35 (by decide +kernel) (by decide +kernel))⟩
theorem vw_X8_goesWith : VW yX8_goesWith cX8_goesWith 5 (some .boolean) 3 := ⟨⟨(in_wt 83 (by decide +kernel) (by decide +kernel)), (in_wt 1159 (by decide +kernel) (by decide +kernel)), by decide +kernel⟩, (in_wt 1158 (by decide +kernel) (by decide +kernel)), (in_wt 36 (by decide +kernel) (by decide +kernel))⟩
theorem fg_X8_75 : FG LC RX8 75 0 1 10 (1, 13) := ⟨_, _, _, _, _, rfl, rfl, rfl, by decide, uw_X3, (in_wt 140 (by decide +kernel) (by decide +kernel))⟩
theorem ml_X8_71 : Cond.methodLink RX8 71 yX8_gatherGrowth ∈ wt := in_wt 1151 (by decide +kernel) (by decide +kernel)
theorem ml_X8_78 : Cond.methodLink RX8 78 yX8_goesWith ∈ wt := in_wt 1156 (by decide +kernel) (by decide +kernel)
/-- PostsEnd$Ranks.int turnedBy(int, int, int) -/
def p_Ranks_turnedBy (σ : St) (a1 : Int32) (a2 : Int32) (a3 : Int32) : Option (Int32 × St) := (if a1 < 0 then some ((-9 : Int32), σ) else (if a1 < σ.1 0 3 5 then (if a3 < 0 then some ((-9 : Int32), σ) else (if a3 < (4 : Int32) then (Option.bind (p_Ranks_gatherGrowth σ a3) fun r1 => (Option.bind (ix 4 a3) fun i3 => (Option.bind (p_Ranks_ahead r1 19 a1) fun r4 => (Option.bind (α := Int32) ((if r4 < a2 then some (1 : Int32) else some (0 : Int32))) fun t6 => (Option.bind (itr0 (S := Int32 × St) (E := ((St) ⊕ (Int32 × St))) (fun s9 => (if (60 : Int32) < s9.1 then some (.inr (.inl s9.2)) else (if (60 : Int32) < (r1.1 0 13 i3) + s9.1 then (if (r1.1 0 13 i3) - s9.1 < 0 then some (.inl (s9.1 + (1 : Int32), s9.2)) else (Option.bind (p_Ranks_goesWith s9.2 (-s9.1) a1 a2) fun r17 => (if r17.1 = t6 then some (.inl (s9.1 + (1 : Int32), r17.2)) else some (.inr (.inr ((1000 : Int32) + s9.1, r17.2)))))) else (Option.bind (p_Ranks_goesWith s9.2 s9.1 a1 a2) fun r19 => (if r19.1 = t6 then (if (r1.1 0 13 i3) - s9.1 < 0 then some (.inl (s9.1 + (1 : Int32), r19.2)) else (Option.bind (p_Ranks_goesWith r19.2 (-s9.1) a1 a2) fun r21 => (if r21.1 = t6 then some (.inl (s9.1 + (1 : Int32), r21.2)) else some (.inr (.inr ((1000 : Int32) + s9.1, r21.2)))))) else some (.inr (.inr (s9.1, r19.2)))))))) FU ((1 : Int32), r1)) (Sum.elim (fun e14 => some ((-9 : Int32), e14)) some)))))) else some ((-9 : Int32), σ))) else some ((-9 : Int32), σ)))
set_option maxRecDepth 20000 in
set_option maxHeartbeats 4000000 in
theorem w_p_Ranks_turnedBy (Θ : TT) (σ : St) (a1 : Int32) (a2 : Int32) (a3 : Int32) (C : CX Θ cX8_turnedBy RX8 (some .int) ({ frames := 4, cells := 0, slots := 0, locals := 92 } : Room) 7) : WA LC Θ (fun r : Int32 × St => Qm LC Θ (some (.int r.1)) r.2 (True)) 0 [some (.ref (cF Θ 3)), some (.int a1), some (.int a2), some (.int a3), none, none, none] [] σ (p_Ranks_turnedBy σ a1 a2 a3) := by
  unfold p_Ranks_turnedBy
  refine r_iload_n C dX8_turnedBy_0 rfl ?_
  refine r_if_lt C 21 dX8_turnedBy_1 (by decide) ?_ ?_
  · refine r_bipush C (-9 : Int32) dX8_turnedBy_21 (by decide) ?_
    exact r_iret C dX8_turnedBy_23 rfl rfl trivial
  · refine r_iload_n C dX8_turnedBy_4 rfl ?_
    refine r_aload_n C dX8_turnedBy_5 rfl ?_
    refine r_getI0 C dX8_turnedBy_6 fg_X8_31 (by decide) ?_
    refine r_icmp_ge C 21 dX8_turnedBy_9 (by decide) ?_ ?_
    · refine r_bipush C (-9 : Int32) dX8_turnedBy_21 (by decide) ?_
      exact r_iret C dX8_turnedBy_23 rfl rfl trivial
    · refine r_iload_n C dX8_turnedBy_12 rfl ?_
      refine r_if_lt C 21 dX8_turnedBy_13 (by decide) ?_ ?_
      · refine r_bipush C (-9 : Int32) dX8_turnedBy_21 (by decide) ?_
        exact r_iret C dX8_turnedBy_23 rfl rfl trivial
      · refine r_iload_n C dX8_turnedBy_16 rfl ?_
        refine r_iconst C (4 : Int32) dX8_turnedBy_17 (by decide) ?_
        refine r_icmp_lt C 24 dX8_turnedBy_18 (by decide) ?_ ?_
        · refine r_aload_n C dX8_turnedBy_24 rfl ?_
          refine r_iload_n C dX8_turnedBy_25 rfl ?_
          refine r_callV C (st := []) (As := [.int a3]) (d := 0) (j := 3) dX8_turnedBy_26 ml_X8_71 vw_X8_gatherGrowth ⟨_, _, _, _, rfl, rfl⟩ (dm0 (by decide)) (fun r1 e => c_p_Ranks_gatherGrowth Θ.1.2.1 (cW Θ) (cAd Θ) (cN Θ) σ a3 r1 e) rfl rfl (Nat.le_of_ble_eq_true rfl) ⟨rfl, rfl, by decide, by decide⟩ (fun r1 h2 => ?_)
          refine r_aload_n C dX8_turnedBy_29 rfl ?_
          refine r_getF0 C dX8_turnedBy_30 fg_X8_27 (by decide) ?_
          refine r_getF0 C dX8_turnedBy_33 fg_X8_75 (by decide) ?_
          refine r_iload_n C dX8_turnedBy_36 rfl ?_
          refine r_iald (α := Unit) C dX8_turnedBy_37 ag_LC_13 (fun i3 => ?_)
          refine r_istore C [some (.ref (cF Θ 3)), some (.int a1), some (.int a2), some (.int a3), some (.int (r1.1 0 13 i3)), none, none] dX8_turnedBy_38 rfl (by decide) rfl ?_
          refine r_aload_n C dX8_turnedBy_40 rfl ?_
          refine r_aload_n C dX8_turnedBy_41 rfl ?_
          refine r_getF0 C dX8_turnedBy_42 fg_X8_17 (by decide) ?_
          refine r_iload_n C dX8_turnedBy_45 rfl ?_
          refine r_callV C (st := []) (As := [.ref (cF Θ 19), .int a1]) (d := 0) (j := 3) dX8_turnedBy_46 ml_X8_67 vw_X8_ahead ⟨_, _, _, _, rfl, rfl⟩ (dm0 (by decide)) (fun r4 e => c_p_Ranks_ahead Θ.1.2.1 (cW Θ) (cAd Θ) (cN Θ) r1 19 a1 ag_LC_19 r4 e) rfl rfl (Nat.le_of_ble_eq_true rfl) ⟨rfl, rfl, by decide, by decide⟩ (fun r4 h5 => ?_)
          refine r_iload_n C dX8_turnedBy_49 rfl ?_
          refine WA.join (α := Int32) 58 (fun t6 => [some (.ref (cF Θ 3)), some (.int a1), some (.int a2), none, some (.int (r1.1 0 13 i3)), none, none]) (fun t6 => [.int t6]) (fun t6 => r1) (fun t6 => True) (fun t6 h7 => ?_) (fun J8 => ?_)
          · refine r_istore C [some (.ref (cF Θ 3)), some (.int a1), some (.int a2), none, some (.int (r1.1 0 13 i3)), some (.int t6), none] dX8_turnedBy_58 rfl (by decide) rfl ?_
            refine r_iconst C (1 : Int32) dX8_turnedBy_60 (by decide) ?_
            refine r_istore C [some (.ref (cF Θ 3)), some (.int a1), some (.int a2), none, some (.int (r1.1 0 13 i3)), some (.int t6), some (.int (1 : Int32))] dX8_turnedBy_61 rfl (by decide) rfl ?_
            refine WA.joinL (α := St) 131 (fun e14 => [none, none, none, none, none, none, none]) (fun e14 => []) (fun e14 => e14) (fun e14 => True) (fun e14 h15 => ?_) (fun J16 => ?_)
            · refine WA.sml ?_
              refine r_bipush C (-9 : Int32) dX8_turnedBy_131 (by decide) ?_
              exact r_iret C dX8_turnedBy_133 rfl rfl trivial
            · refine WA.wk (lv' := [some (.ref (cF Θ 3)), some (.int a1), some (.int a2), none, some (.int (r1.1 0 13 i3)), some (.int t6), some (.int (1 : Int32))]) [true, true, true, false, true, true, true] rfl ?_
              refine WA.itr (S := Int32 × St) 63 (fun s9 => [some (.ref (cF Θ 3)), some (.int a1), some (.int a2), none, some (.int (r1.1 0 13 i3)), some (.int t6), some (.int s9.1)]) (fun s9 => []) (fun s9 => s9.2) (fun s9 => True) (fun s9 k13 h10 ih11 hx12 => ?_) FU ((1 : Int32), r1) trivial
              refine r_iload C dX8_turnedBy_63 rfl ?_
              refine r_bipush C (60 : Int32) dX8_turnedBy_65 (by decide) ?_
              refine WA.bif ?_
              refine r_icmp_gt C 131 dX8_turnedBy_67 (by decide) ?_ ?_
              · refine WA.wk (lv' := [none, none, none, none, none, none, none]) [false, false, false, false, false, false, false] rfl ?_
                exact WA.eqK (hx12 _) (J16 s9.2 trivial)
              · refine r_iload C dX8_turnedBy_70 rfl ?_
                refine r_iload C dX8_turnedBy_72 rfl ?_
                refine r_iadd C dX8_turnedBy_74 ?_
                refine r_bipush C (60 : Int32) dX8_turnedBy_75 (by decide) ?_
                refine WA.bif ?_
                refine r_icmp_gt C 96 dX8_turnedBy_77 (by decide) ?_ ?_
                · refine r_iload C dX8_turnedBy_96 rfl ?_
                  refine r_iload C dX8_turnedBy_98 rfl ?_
                  refine r_isub C dX8_turnedBy_100 ?_
                  refine WA.bif ?_
                  refine r_if_lt C 125 dX8_turnedBy_101 (by decide) ?_ ?_
                  · refine r_iinc C (1 : Int32) [some (.ref (cF Θ 3)), some (.int a1), some (.int a2), none, some (.int (r1.1 0 13 i3)), some (.int t6), some (.int (s9.1 + (1 : Int32)))] dX8_turnedBy_125 (by decide) rfl rfl (by decide) rfl ?_
                    refine r_goto C 63 dX8_turnedBy_128 (by decide) ?_
                    refine WA.wk (lv' := [some (.ref (cF Θ 3)), some (.int a1), some (.int a2), none, some (.int (r1.1 0 13 i3)), some (.int t6), some (.int (s9.1 + (1 : Int32)))]) [true, true, true, false, true, true, true] rfl ?_
                    exact ih11 (s9.1 + (1 : Int32), s9.2) trivial
                  · refine r_aload_n C dX8_turnedBy_104 rfl ?_
                    refine r_iload C dX8_turnedBy_105 rfl ?_
                    refine r_ineg C dX8_turnedBy_107 ?_
                    refine r_iload_n C dX8_turnedBy_108 rfl ?_
                    refine r_iload_n C dX8_turnedBy_109 rfl ?_
                    refine WA.asc ?_
                    refine r_callV C (st := []) (As := [.int (-s9.1), .int a1, .int a2]) (d := 0) (j := 3) dX8_turnedBy_110 ml_X8_78 vw_X8_goesWith ⟨_, _, _, _, rfl, rfl⟩ (dm0 (by decide)) (fun r17 e => c_p_Ranks_goesWith Θ.1.2.1 (cW Θ) (cAd Θ) (cN Θ) s9.2 (-s9.1) a1 a2 r17 e) rfl rfl (Nat.le_of_ble_eq_true rfl) ⟨rfl, rfl, by decide, by decide⟩ (fun r17 h18 => ?_)
                    refine r_iload C dX8_turnedBy_113 rfl ?_
                    refine WA.bif ?_
                    refine r_icmp_eq C 125 dX8_turnedBy_115 (by decide) ?_ ?_
                    · refine r_iinc C (1 : Int32) [some (.ref (cF Θ 3)), some (.int a1), some (.int a2), none, some (.int (r1.1 0 13 i3)), some (.int t6), some (.int (s9.1 + (1 : Int32)))] dX8_turnedBy_125 (by decide) rfl rfl (by decide) rfl ?_
                      refine r_goto C 63 dX8_turnedBy_128 (by decide) ?_
                      refine WA.wk (lv' := [some (.ref (cF Θ 3)), some (.int a1), some (.int a2), none, some (.int (r1.1 0 13 i3)), some (.int t6), some (.int (s9.1 + (1 : Int32)))]) [true, true, true, false, true, true, true] rfl ?_
                      exact ih11 (s9.1 + (1 : Int32), r17.2) trivial
                    · refine r_sipush C (1000 : Int32) dX8_turnedBy_118 (by decide) ?_
                      refine r_iload C dX8_turnedBy_121 rfl ?_
                      refine r_iadd C dX8_turnedBy_123 ?_
                      refine WA.eqK (hx12 _) ?_
                      exact r_iret C dX8_turnedBy_124 rfl rfl trivial
                · refine r_aload_n C dX8_turnedBy_80 rfl ?_
                  refine r_iload C dX8_turnedBy_81 rfl ?_
                  refine r_iload_n C dX8_turnedBy_83 rfl ?_
                  refine r_iload_n C dX8_turnedBy_84 rfl ?_
                  refine WA.asc ?_
                  refine r_callV C (st := []) (As := [.int s9.1, .int a1, .int a2]) (d := 0) (j := 3) dX8_turnedBy_85 ml_X8_78 vw_X8_goesWith ⟨_, _, _, _, rfl, rfl⟩ (dm0 (by decide)) (fun r19 e => c_p_Ranks_goesWith Θ.1.2.1 (cW Θ) (cAd Θ) (cN Θ) s9.2 s9.1 a1 a2 r19 e) rfl rfl (Nat.le_of_ble_eq_true rfl) ⟨rfl, rfl, by decide, by decide⟩ (fun r19 h20 => ?_)
                  refine r_iload C dX8_turnedBy_88 rfl ?_
                  refine WA.bif ?_
                  refine r_icmp_eq C 96 dX8_turnedBy_90 (by decide) ?_ ?_
                  · refine r_iload C dX8_turnedBy_96 rfl ?_
                    refine r_iload C dX8_turnedBy_98 rfl ?_
                    refine r_isub C dX8_turnedBy_100 ?_
                    refine WA.bif ?_
                    refine r_if_lt C 125 dX8_turnedBy_101 (by decide) ?_ ?_
                    · refine r_iinc C (1 : Int32) [some (.ref (cF Θ 3)), some (.int a1), some (.int a2), none, some (.int (r1.1 0 13 i3)), some (.int t6), some (.int (s9.1 + (1 : Int32)))] dX8_turnedBy_125 (by decide) rfl rfl (by decide) rfl ?_
                      refine r_goto C 63 dX8_turnedBy_128 (by decide) ?_
                      refine WA.wk (lv' := [some (.ref (cF Θ 3)), some (.int a1), some (.int a2), none, some (.int (r1.1 0 13 i3)), some (.int t6), some (.int (s9.1 + (1 : Int32)))]) [true, true, true, false, true, true, true] rfl ?_
                      exact ih11 (s9.1 + (1 : Int32), r19.2) trivial
                    · refine r_aload_n C dX8_turnedBy_104 rfl ?_
                      refine r_iload C dX8_turnedBy_105 rfl ?_
                      refine r_ineg C dX8_turnedBy_107 ?_
                      refine r_iload_n C dX8_turnedBy_108 rfl ?_
                      refine r_iload_n C dX8_turnedBy_109 rfl ?_
                      refine WA.asc ?_
                      refine r_callV C (st := []) (As := [.int (-s9.1), .int a1, .int a2]) (d := 0) (j := 3) dX8_turnedBy_110 ml_X8_78 vw_X8_goesWith ⟨_, _, _, _, rfl, rfl⟩ (dm0 (by decide)) (fun r21 e => c_p_Ranks_goesWith Θ.1.2.1 (cW Θ) (cAd Θ) (cN Θ) r19.2 (-s9.1) a1 a2 r21 e) rfl rfl (Nat.le_of_ble_eq_true rfl) ⟨rfl, rfl, by decide, by decide⟩ (fun r21 h22 => ?_)
                      refine r_iload C dX8_turnedBy_113 rfl ?_
                      refine WA.bif ?_
                      refine r_icmp_eq C 125 dX8_turnedBy_115 (by decide) ?_ ?_
                      · refine r_iinc C (1 : Int32) [some (.ref (cF Θ 3)), some (.int a1), some (.int a2), none, some (.int (r1.1 0 13 i3)), some (.int t6), some (.int (s9.1 + (1 : Int32)))] dX8_turnedBy_125 (by decide) rfl rfl (by decide) rfl ?_
                        refine r_goto C 63 dX8_turnedBy_128 (by decide) ?_
                        refine WA.wk (lv' := [some (.ref (cF Θ 3)), some (.int a1), some (.int a2), none, some (.int (r1.1 0 13 i3)), some (.int t6), some (.int (s9.1 + (1 : Int32)))]) [true, true, true, false, true, true, true] rfl ?_
                        exact ih11 (s9.1 + (1 : Int32), r21.2) trivial
                      · refine r_sipush C (1000 : Int32) dX8_turnedBy_118 (by decide) ?_
                        refine r_iload C dX8_turnedBy_121 rfl ?_
                        refine r_iadd C dX8_turnedBy_123 ?_
                        refine WA.eqK (hx12 _) ?_
                        exact r_iret C dX8_turnedBy_124 rfl rfl trivial
                  · refine r_iload C dX8_turnedBy_93 rfl ?_
                    refine WA.eqK (hx12 _) ?_
                    exact r_iret C dX8_turnedBy_95 rfl rfl trivial
          · refine WA.bif ?_
            refine r_icmp_ge C 57 dX8_turnedBy_50 (by decide) ?_ ?_
            · refine r_iconst C (0 : Int32) dX8_turnedBy_57 (by decide) ?_
              refine WA.wk (lv' := [some (.ref (cF Θ 3)), some (.int a1), some (.int a2), none, some (.int (r1.1 0 13 i3)), none, none]) [true, true, true, false, true, false, false] rfl ?_
              exact J8 (0 : Int32) trivial
            · refine r_iconst C (1 : Int32) dX8_turnedBy_53 (by decide) ?_
              refine r_goto C 58 dX8_turnedBy_54 (by decide) ?_
              refine WA.wk (lv' := [some (.ref (cF Θ 3)), some (.int a1), some (.int a2), none, some (.int (r1.1 0 13 i3)), none, none]) [true, true, true, false, true, false, false] rfl ?_
              exact J8 (1 : Int32) trivial
        · refine r_bipush C (-9 : Int32) dX8_turnedBy_21 (by decide) ?_
          exact r_iret C dX8_turnedBy_23 rfl rfl trivial
theorem c_p_Ranks_turnedBy (l : Launch) (ω : Wd) (ad : Nat → Nat → Nat) (N : Nat → Nat) (σ : St) (a1 : Int32) (a2 : Int32) (a3 : Int32) : ∀ r : Int32 × St, p_Ranks_turnedBy σ a1 a2 a3 = some r → Ct l yX8_turnedBy cX8_turnedBy 7 (some .int) ({ frames := 4, cells := 0, slots := 0, locals := 92 } : Room) LC ω ad N [.ref (ω.2.1 3), .int a1, .int a2, .int a3] σ (some (.int r.1)) r.2 (True) :=
  ct_of (o := fun r : Int32 × St => (some (.int r.1))) (s' := fun r => r.2) (P := fun r => True) [some (.ref (ω.2.1 3)), some (.int a1), some (.int a2), some (.int a3), none, none, none] (by decide) rfl (Nat.le_of_ble_eq_true rfl) (fun Γ C _ _ => w_p_Ranks_turnedBy (Γ, ω, 7, ad, N, 0, 0) σ a1 a2 a3 C)
theorem fg_X8_110 (j : Nat) : FG LC RX8 110 3 j 1 (0, 0) := ⟨_, _, _, _, _, rfl, rfl, rfl, by decide, uw_X10, (in_wt 640 (by decide +kernel) (by decide +kernel))⟩
theorem fg_X8_86 (j : Nat) : FG LC RX8 86 3 j 0 (3, 0) := ⟨_, _, _, _, _, rfl, rfl, rfl, by decide, uw_X10, (in_wt 637 (by decide +kernel) (by decide +kernel))⟩
theorem ml_X8_113 : Cond.methodLink RX8 113 yX5_lastTold ∈ wt := in_wt 1173 (by decide +kernel) (by decide +kernel)
theorem ml_X8_117 : Cond.methodLink RX8 117 yX10_asOf ∈ wt := in_wt 1174 (by decide +kernel) (by decide +kernel)
theorem ml_X8_121 : Cond.methodLink RX8 121 yX3_recordOf ∈ wt := in_wt 1175 (by decide +kernel) (by decide +kernel)
/-- PostsEnd$Ranks.private int gainOf(PostsEnd$Telling, int) -/
def p_Ranks_gainOf (σ : St) (a1 : Nat) (a2 : Int32) : Option Int32 := (lt1 (σ.2 3 a1 0) fun x1 => (Option.elim x1 none fun q3 => (Option.bind (p_Person_lastTold σ q3 (σ.1 3 a1 1)) fun r5 => (if r5 = (some a1) then (Option.bind (p_Telling_asOf σ a1 (σ.1 0 1 0)) fun r7 => (if σ.1 3 a1 1 = 0 then (Option.bind (ix 4 (0 : Int32)) fun i14 => some ((σ.1 0 13 i14) * (a2 - r7))) else (Option.bind (ix 4 (2 : Int32)) fun i9 => (Option.bind (p_Firm_recordOf a2) fun r10 => (Option.bind (p_Firm_recordOf r7) fun r12 => some ((σ.1 0 13 i9) * (r10 - r12))))))) else some (0 : Int32)))))
set_option maxRecDepth 20000 in
set_option maxHeartbeats 4000000 in
theorem w_p_Ranks_gainOf (Θ : TT) (σ : St) (a1 : Nat) (a2 : Int32) (b1 : a1 < cN Θ 3) (C : CX Θ cX8_gainOf RX8 (some .int) ({ frames := 2, cells := 0, slots := 0, locals := 42 } : Room) 4) : WA LC Θ (fun r : Int32 => Qm LC Θ (some (.int r)) σ (True)) 0 [some (.ref (cF Θ 3)), some (.ref (cAd Θ 3 a1)), some (.int a2), none] [] σ (p_Ranks_gainOf σ a1 a2) := by
  unfold p_Ranks_gainOf
  refine r_aload_n C dX8_gainOf_0 rfl ?_
  refine r_getQ C dX8_gainOf_1 (fg_X8_86 _) (by decide) b1 (fun x1 h2 => ?_)
  refine r_aload_n C dX8_gainOf_4 rfl ?_
  refine r_getI C dX8_gainOf_5 (fg_X8_110 _) (by decide) b1 ?_
  rcases x1 with _ | q3
  · exact WA.non
  have h4 := h2 q3 rfl
  refine WA.els ?_
  refine r_callV C (st := []) (As := [.int (σ.1 3 a1 1)]) (d := 2) (j := q3) dX8_gainOf_8 ml_X8_113 vw_X5_lastTold ⟨_, _, _, _, rfl, rfl⟩ (dmk (by decide) (by decide) h4) (fun r5 e => c_p_Person_lastTold Θ.1.2.1 (cW Θ) (cAd Θ) (cN Θ) σ q3 (σ.1 3 a1 1) h4 r5 e) rfl rfl (Nat.le_of_ble_eq_true rfl) ⟨rfl, rfl, by decide, by decide⟩ (fun r5 h6 => ?_)
  refine r_aload_n C dX8_gainOf_11 rfl ?_
  refine r_acmp_eq C 17 2 r5 (some a1) dX8_gainOf_12 (by decide) (by decide) h6 (fun q e => (Option.some.inj e) ▸ b1) ?_ ?_
  · refine r_aload_n C dX8_gainOf_17 rfl ?_
    refine r_aload_n C dX8_gainOf_18 rfl ?_
    refine r_getF0 C dX8_gainOf_19 fg_X8_27 (by decide) ?_
    refine r_getI0 C dX8_gainOf_22 fg_X8_50 (by decide) ?_
    refine r_callV C (st := []) (As := [.int (σ.1 0 1 0)]) (d := 3) (j := a1) dX8_gainOf_25 ml_X8_117 vw_X10_asOf ⟨_, _, _, _, rfl, rfl⟩ (dmk (by decide) (by decide) b1) (fun r7 e => c_p_Telling_asOf Θ.1.2.1 (cW Θ) (cAd Θ) (cN Θ) σ a1 (σ.1 0 1 0) b1 r7 e) rfl rfl (Nat.le_of_ble_eq_true rfl) ⟨rfl, rfl, by decide, by decide⟩ (fun r7 h8 => ?_)
    refine r_istore_n C [some (.ref (cF Θ 3)), some (.ref (cAd Θ 3 a1)), some (.int a2), some (.int r7)] dX8_gainOf_28 rfl (by decide) rfl ?_
    refine r_aload_n C dX8_gainOf_29 rfl ?_
    refine r_getI C dX8_gainOf_30 (fg_X8_110 _) (by decide) b1 ?_
    refine r_if_ne C 50 dX8_gainOf_33 (by decide) ?_ ?_
    · refine r_aload_n C dX8_gainOf_50 rfl ?_
      refine r_getF0 C dX8_gainOf_51 fg_X8_27 (by decide) ?_
      refine r_getF0 C dX8_gainOf_54 fg_X8_75 (by decide) ?_
      refine r_iconst C (2 : Int32) dX8_gainOf_57 (by decide) ?_
      refine r_iald (α := Unit) C dX8_gainOf_58 ag_LC_13 (fun i9 => ?_)
      refine r_aload_n C dX8_gainOf_59 rfl ?_
      refine r_getF0 C dX8_gainOf_60 fg_X8_27 (by decide) ?_
      refine r_iload_n C dX8_gainOf_63 rfl ?_
      refine r_callV C (st := [.int (σ.1 0 13 i9)]) (As := [.int a2]) (d := 0) (j := 1) dX8_gainOf_64 ml_X8_121 vw_X3_recordOf ⟨_, _, _, _, rfl, rfl⟩ (dm0 (by decide)) (fun r10 e => c_p_Firm_recordOf Θ.1.2.1 (cW Θ) (cAd Θ) (cN Θ) σ a2 r10 e) rfl rfl (Nat.le_of_ble_eq_true rfl) ⟨rfl, rfl, by decide, by decide⟩ (fun r10 h11 => ?_)
      refine r_aload_n C dX8_gainOf_67 rfl ?_
      refine r_getF0 C dX8_gainOf_68 fg_X8_27 (by decide) ?_
      refine r_iload_n C dX8_gainOf_71 rfl ?_
      refine r_callV C (st := [.int r10, .int (σ.1 0 13 i9)]) (As := [.int r7]) (d := 0) (j := 1) dX8_gainOf_72 ml_X8_121 vw_X3_recordOf ⟨_, _, _, _, rfl, rfl⟩ (dm0 (by decide)) (fun r12 e => c_p_Firm_recordOf Θ.1.2.1 (cW Θ) (cAd Θ) (cN Θ) σ r7 r12 e) rfl rfl (Nat.le_of_ble_eq_true rfl) ⟨rfl, rfl, by decide, by decide⟩ (fun r12 h13 => ?_)
      refine r_isub C dX8_gainOf_75 ?_
      refine r_imul C dX8_gainOf_76 ?_
      exact r_iret C dX8_gainOf_77 rfl rfl trivial
    · refine r_aload_n C dX8_gainOf_36 rfl ?_
      refine r_getF0 C dX8_gainOf_37 fg_X8_27 (by decide) ?_
      refine r_getF0 C dX8_gainOf_40 fg_X8_75 (by decide) ?_
      refine r_iconst C (0 : Int32) dX8_gainOf_43 (by decide) ?_
      refine r_iald (α := Unit) C dX8_gainOf_44 ag_LC_13 (fun i14 => ?_)
      refine r_iload_n C dX8_gainOf_45 rfl ?_
      refine r_iload_n C dX8_gainOf_46 rfl ?_
      refine r_isub C dX8_gainOf_47 ?_
      refine r_imul C dX8_gainOf_48 ?_
      exact r_iret C dX8_gainOf_49 rfl rfl trivial
  · refine r_iconst C (0 : Int32) dX8_gainOf_15 (by decide) ?_
    exact r_iret C dX8_gainOf_16 rfl rfl trivial
theorem c_p_Ranks_gainOf (l : Launch) (ω : Wd) (ad : Nat → Nat → Nat) (N : Nat → Nat) (σ : St) (a1 : Nat) (a2 : Int32) (b1 : a1 < N 3) : ∀ r : Int32, p_Ranks_gainOf σ a1 a2 = some r → Ct l yX8_gainOf cX8_gainOf 4 (some .int) ({ frames := 2, cells := 0, slots := 0, locals := 42 } : Room) LC ω ad N [.ref (ω.2.1 3), .ref (ad 3 a1), .int a2] σ (some (.int r)) σ (True) :=
  ct_of (o := fun r : Int32 => (some (.int r))) (s' := fun r => σ) (P := fun r => True) [some (.ref (ω.2.1 3)), some (.ref (ad 3 a1)), some (.int a2), none] (by decide) rfl (Nat.le_of_ble_eq_true rfl) (fun Γ C _ _ => w_p_Ranks_gainOf (Γ, ω, 4, ad, N, 0, 0) σ a1 a2 b1 C)
/-- PostsEnd$Ranks.private long goers(int[], int) -/
def p_Ranks_goers (σ : St) (a1 : Nat) (a2 : Int32) : Option Int64 := (Option.bind (itr0 (S := Int64 × Int32) (E := Int64) (fun s1 => (if s1.2 < σ.1 0 3 5 then (Option.bind (p_Ranks_ahead σ a1 s1.2) fun r9 => (Option.bind (α := Int64) ((if r9 < a2 then some (s1.1 ||| ((1 : Int64) <<< (Int32.toInt64 s1.2 &&& 63))) else some s1.1)) fun t11 => some (.inl (t11, s1.2 + (1 : Int32))))) else some (.inr s1.1))) FU ((0 : Int64), (0 : Int32))) fun e6 => some e6)
set_option maxRecDepth 20000 in
set_option maxHeartbeats 4000000 in
theorem w_p_Ranks_goers (Θ : TT) (σ : St) (a1 : Nat) (a2 : Int32) (b1 : AG LC a1 0 40) (C : CX Θ cX8_goers RX8 (some .long) ({ frames := 2, cells := 0, slots := 0, locals := 47 } : Room) 6) : WA LC Θ (fun r : Int64 => Qm LC Θ (some (.long r)) σ (True)) 0 [some (.ref (cF Θ 3)), some (.ref (cF Θ a1)), some (.int a2), none, none, none] [] σ (p_Ranks_goers σ a1 a2) := by
  unfold p_Ranks_goers
  refine r_lconst C (0 : Int64) dX8_goers_0 (by decide) ?_
  refine r_lstore_n C [some (.ref (cF Θ 3)), some (.ref (cF Θ a1)), some (.int a2), some (.long (0 : Int64)), none, none] dX8_goers_1 rfl (by decide) rfl ?_
  refine r_iconst C (0 : Int32) dX8_goers_2 (by decide) ?_
  refine r_istore C [some (.ref (cF Θ 3)), some (.ref (cF Θ a1)), some (.int a2), some (.long (0 : Int64)), none, some (.int (0 : Int32))] dX8_goers_3 rfl (by decide) rfl ?_
  refine WA.join (α := Int64) 38 (fun e6 => [none, none, none, some (.long e6), none, none]) (fun e6 => []) (fun e6 => σ) (fun e6 => True) (fun e6 h7 => ?_) (fun J8 => ?_)
  · refine r_lload_n C dX8_goers_38 rfl ?_
    exact r_lret C dX8_goers_39 rfl rfl trivial
  · refine WA.wk (lv' := [some (.ref (cF Θ 3)), some (.ref (cF Θ a1)), some (.int a2), some (.long (0 : Int64)), none, some (.int (0 : Int32))]) [true, true, true, true, false, true] rfl ?_
    refine WA.itr (S := Int64 × Int32) 5 (fun s1 => [some (.ref (cF Θ 3)), some (.ref (cF Θ a1)), some (.int a2), some (.long s1.1), none, some (.int s1.2)]) (fun s1 => []) (fun s1 => σ) (fun s1 => True) (fun s1 k5 h2 ih3 hx4 => ?_) FU ((0 : Int64), (0 : Int32)) trivial
    refine r_iload C dX8_goers_5 rfl ?_
    refine r_aload_n C dX8_goers_7 rfl ?_
    refine r_getI0 C dX8_goers_8 fg_X8_31 (by decide) ?_
    refine WA.bif ?_
    refine r_icmp_ge C 38 dX8_goers_11 (by decide) ?_ ?_
    · refine WA.wk (lv' := [none, none, none, some (.long s1.1), none, none]) [false, false, false, true, false, false] rfl ?_
      exact WA.eqK (hx4 _) (J8 s1.1 trivial)
    · refine r_aload_n C dX8_goers_14 rfl ?_
      refine r_aload_n C dX8_goers_15 rfl ?_
      refine r_iload C dX8_goers_16 rfl ?_
      refine WA.asc ?_
      refine r_callV C (st := []) (As := [.ref (cF Θ a1), .int s1.2]) (d := 0) (j := 3) dX8_goers_18 ml_X8_67 vw_X8_ahead ⟨_, _, _, _, rfl, rfl⟩ (dm0 (by decide)) (fun r9 e => c_p_Ranks_ahead Θ.1.2.1 (cW Θ) (cAd Θ) (cN Θ) σ a1 s1.2 b1 r9 e) rfl rfl (Nat.le_of_ble_eq_true rfl) ⟨rfl, rfl, by decide, by decide⟩ (fun r9 h10 => ?_)
      refine r_iload_n C dX8_goers_21 rfl ?_
      refine WA.asc ?_
      refine WA.join (α := Int64) 32 (fun t11 => [some (.ref (cF Θ 3)), some (.ref (cF Θ a1)), some (.int a2), some (.long t11), none, some (.int s1.2)]) (fun t11 => []) (fun t11 => σ) (fun t11 => True) (fun t11 h12 => ?_) (fun J13 => ?_)
      · refine r_iinc C (1 : Int32) [some (.ref (cF Θ 3)), some (.ref (cF Θ a1)), some (.int a2), some (.long t11), none, some (.int (s1.2 + (1 : Int32)))] dX8_goers_32 (by decide) rfl rfl (by decide) rfl ?_
        refine r_goto C 5 dX8_goers_35 (by decide) ?_
        refine WA.wk (lv' := [some (.ref (cF Θ 3)), some (.ref (cF Θ a1)), some (.int a2), some (.long t11), none, some (.int (s1.2 + (1 : Int32)))]) [true, true, true, true, false, true] rfl ?_
        exact ih3 (t11, s1.2 + (1 : Int32)) trivial
      · refine WA.bif ?_
        refine r_icmp_ge C 32 dX8_goers_22 (by decide) ?_ ?_
        · refine WA.wk (lv' := [some (.ref (cF Θ 3)), some (.ref (cF Θ a1)), some (.int a2), some (.long s1.1), none, some (.int s1.2)]) [true, true, true, true, false, true] rfl ?_
          exact J13 s1.1 trivial
        · refine r_lload_n C dX8_goers_25 rfl ?_
          refine r_lconst C (1 : Int64) dX8_goers_26 (by decide) ?_
          refine r_iload C dX8_goers_27 rfl ?_
          refine r_lshl C dX8_goers_29 ?_
          refine r_lor C dX8_goers_30 ?_
          refine r_lstore_n C [some (.ref (cF Θ 3)), some (.ref (cF Θ a1)), some (.int a2), some (.long (s1.1 ||| ((1 : Int64) <<< (Int32.toInt64 s1.2 &&& 63)))), none, some (.int s1.2)] dX8_goers_31 rfl (by decide) rfl ?_
          refine WA.wk (lv' := [some (.ref (cF Θ 3)), some (.ref (cF Θ a1)), some (.int a2), some (.long (s1.1 ||| ((1 : Int64) <<< (Int32.toInt64 s1.2 &&& 63)))), none, some (.int s1.2)]) [true, true, true, true, false, true] rfl ?_
          exact J13 (s1.1 ||| ((1 : Int64) <<< (Int32.toInt64 s1.2 &&& 63))) trivial
theorem c_p_Ranks_goers (l : Launch) (ω : Wd) (ad : Nat → Nat → Nat) (N : Nat → Nat) (σ : St) (a1 : Nat) (a2 : Int32) (b1 : AG LC a1 0 40) : ∀ r : Int64, p_Ranks_goers σ a1 a2 = some r → Ct l yX8_goers cX8_goers 6 (some .long) ({ frames := 2, cells := 0, slots := 0, locals := 47 } : Room) LC ω ad N [.ref (ω.2.1 3), .ref (ω.2.1 a1), .int a2] σ (some (.long r)) σ (True) :=
  ct_of (o := fun r : Int64 => (some (.long r))) (s' := fun r => σ) (P := fun r => True) [some (.ref (ω.2.1 3)), some (.ref (ω.2.1 a1)), some (.int a2), none, none, none] (by decide) rfl (Nat.le_of_ble_eq_true rfl) (fun Γ C _ _ => w_p_Ranks_goers (Γ, ω, 6, ad, N, 0, 0) σ a1 a2 b1 C)
theorem kc_J13_314 : Cond.constantLong RJ13 314 (6148914691236517205) ∈ wt := in_wt 1183 (by decide +kernel) (by decide +kernel)
theorem kc_J13_316 : Cond.constantLong RJ13 316 (3689348814741910323) ∈ wt := in_wt 1184 (by decide +kernel) (by decide +kernel)
theorem kc_J13_318 : Cond.constantLong RJ13 318 (1085102592571150095) ∈ wt := in_wt 1185 (by decide +kernel) (by decide +kernel)
/-- java/lang/Long.public static int bitCount(long) -/
def j_Long_bitCount (a0 : Int64) : Option Int32 := some ((Int64.toInt32 ((((((((a0 - (((Int64.toUInt64 a0 >>> (Int64.toUInt64 (Int32.toInt64 (1 : Int32)) &&& Int64.toUInt64 63)).toInt64) &&& (6148914691236517205 : Int64))) &&& (3689348814741910323 : Int64)) + (((Int64.toUInt64 (a0 - (((Int64.toUInt64 a0 >>> (Int64.toUInt64 (Int32.toInt64 (1 : Int32)) &&& Int64.toUInt64 63)).toInt64) &&& (6148914691236517205 : Int64))) >>> (Int64.toUInt64 (Int32.toInt64 (2 : Int32)) &&& Int64.toUInt64 63)).toInt64) &&& (3689348814741910323 : Int64))) + ((Int64.toUInt64 (((a0 - (((Int64.toUInt64 a0 >>> (Int64.toUInt64 (Int32.toInt64 (1 : Int32)) &&& Int64.toUInt64 63)).toInt64) &&& (6148914691236517205 : Int64))) &&& (3689348814741910323 : Int64)) + (((Int64.toUInt64 (a0 - (((Int64.toUInt64 a0 >>> (Int64.toUInt64 (Int32.toInt64 (1 : Int32)) &&& Int64.toUInt64 63)).toInt64) &&& (6148914691236517205 : Int64))) >>> (Int64.toUInt64 (Int32.toInt64 (2 : Int32)) &&& Int64.toUInt64 63)).toInt64) &&& (3689348814741910323 : Int64))) >>> (Int64.toUInt64 (Int32.toInt64 (4 : Int32)) &&& Int64.toUInt64 63)).toInt64)) &&& (1085102592571150095 : Int64)) + ((Int64.toUInt64 (((((a0 - (((Int64.toUInt64 a0 >>> (Int64.toUInt64 (Int32.toInt64 (1 : Int32)) &&& Int64.toUInt64 63)).toInt64) &&& (6148914691236517205 : Int64))) &&& (3689348814741910323 : Int64)) + (((Int64.toUInt64 (a0 - (((Int64.toUInt64 a0 >>> (Int64.toUInt64 (Int32.toInt64 (1 : Int32)) &&& Int64.toUInt64 63)).toInt64) &&& (6148914691236517205 : Int64))) >>> (Int64.toUInt64 (Int32.toInt64 (2 : Int32)) &&& Int64.toUInt64 63)).toInt64) &&& (3689348814741910323 : Int64))) + ((Int64.toUInt64 (((a0 - (((Int64.toUInt64 a0 >>> (Int64.toUInt64 (Int32.toInt64 (1 : Int32)) &&& Int64.toUInt64 63)).toInt64) &&& (6148914691236517205 : Int64))) &&& (3689348814741910323 : Int64)) + (((Int64.toUInt64 (a0 - (((Int64.toUInt64 a0 >>> (Int64.toUInt64 (Int32.toInt64 (1 : Int32)) &&& Int64.toUInt64 63)).toInt64) &&& (6148914691236517205 : Int64))) >>> (Int64.toUInt64 (Int32.toInt64 (2 : Int32)) &&& Int64.toUInt64 63)).toInt64) &&& (3689348814741910323 : Int64))) >>> (Int64.toUInt64 (Int32.toInt64 (4 : Int32)) &&& Int64.toUInt64 63)).toInt64)) &&& (1085102592571150095 : Int64)) >>> (Int64.toUInt64 (Int32.toInt64 (8 : Int32)) &&& Int64.toUInt64 63)).toInt64)) + ((Int64.toUInt64 ((((((a0 - (((Int64.toUInt64 a0 >>> (Int64.toUInt64 (Int32.toInt64 (1 : Int32)) &&& Int64.toUInt64 63)).toInt64) &&& (6148914691236517205 : Int64))) &&& (3689348814741910323 : Int64)) + (((Int64.toUInt64 (a0 - (((Int64.toUInt64 a0 >>> (Int64.toUInt64 (Int32.toInt64 (1 : Int32)) &&& Int64.toUInt64 63)).toInt64) &&& (6148914691236517205 : Int64))) >>> (Int64.toUInt64 (Int32.toInt64 (2 : Int32)) &&& Int64.toUInt64 63)).toInt64) &&& (3689348814741910323 : Int64))) + ((Int64.toUInt64 (((a0 - (((Int64.toUInt64 a0 >>> (Int64.toUInt64 (Int32.toInt64 (1 : Int32)) &&& Int64.toUInt64 63)).toInt64) &&& (6148914691236517205 : Int64))) &&& (3689348814741910323 : Int64)) + (((Int64.toUInt64 (a0 - (((Int64.toUInt64 a0 >>> (Int64.toUInt64 (Int32.toInt64 (1 : Int32)) &&& Int64.toUInt64 63)).toInt64) &&& (6148914691236517205 : Int64))) >>> (Int64.toUInt64 (Int32.toInt64 (2 : Int32)) &&& Int64.toUInt64 63)).toInt64) &&& (3689348814741910323 : Int64))) >>> (Int64.toUInt64 (Int32.toInt64 (4 : Int32)) &&& Int64.toUInt64 63)).toInt64)) &&& (1085102592571150095 : Int64)) + ((Int64.toUInt64 (((((a0 - (((Int64.toUInt64 a0 >>> (Int64.toUInt64 (Int32.toInt64 (1 : Int32)) &&& Int64.toUInt64 63)).toInt64) &&& (6148914691236517205 : Int64))) &&& (3689348814741910323 : Int64)) + (((Int64.toUInt64 (a0 - (((Int64.toUInt64 a0 >>> (Int64.toUInt64 (Int32.toInt64 (1 : Int32)) &&& Int64.toUInt64 63)).toInt64) &&& (6148914691236517205 : Int64))) >>> (Int64.toUInt64 (Int32.toInt64 (2 : Int32)) &&& Int64.toUInt64 63)).toInt64) &&& (3689348814741910323 : Int64))) + ((Int64.toUInt64 (((a0 - (((Int64.toUInt64 a0 >>> (Int64.toUInt64 (Int32.toInt64 (1 : Int32)) &&& Int64.toUInt64 63)).toInt64) &&& (6148914691236517205 : Int64))) &&& (3689348814741910323 : Int64)) + (((Int64.toUInt64 (a0 - (((Int64.toUInt64 a0 >>> (Int64.toUInt64 (Int32.toInt64 (1 : Int32)) &&& Int64.toUInt64 63)).toInt64) &&& (6148914691236517205 : Int64))) >>> (Int64.toUInt64 (Int32.toInt64 (2 : Int32)) &&& Int64.toUInt64 63)).toInt64) &&& (3689348814741910323 : Int64))) >>> (Int64.toUInt64 (Int32.toInt64 (4 : Int32)) &&& Int64.toUInt64 63)).toInt64)) &&& (1085102592571150095 : Int64)) >>> (Int64.toUInt64 (Int32.toInt64 (8 : Int32)) &&& Int64.toUInt64 63)).toInt64)) >>> (Int64.toUInt64 (Int32.toInt64 (16 : Int32)) &&& Int64.toUInt64 63)).toInt64)) + ((Int64.toUInt64 (((((((a0 - (((Int64.toUInt64 a0 >>> (Int64.toUInt64 (Int32.toInt64 (1 : Int32)) &&& Int64.toUInt64 63)).toInt64) &&& (6148914691236517205 : Int64))) &&& (3689348814741910323 : Int64)) + (((Int64.toUInt64 (a0 - (((Int64.toUInt64 a0 >>> (Int64.toUInt64 (Int32.toInt64 (1 : Int32)) &&& Int64.toUInt64 63)).toInt64) &&& (6148914691236517205 : Int64))) >>> (Int64.toUInt64 (Int32.toInt64 (2 : Int32)) &&& Int64.toUInt64 63)).toInt64) &&& (3689348814741910323 : Int64))) + ((Int64.toUInt64 (((a0 - (((Int64.toUInt64 a0 >>> (Int64.toUInt64 (Int32.toInt64 (1 : Int32)) &&& Int64.toUInt64 63)).toInt64) &&& (6148914691236517205 : Int64))) &&& (3689348814741910323 : Int64)) + (((Int64.toUInt64 (a0 - (((Int64.toUInt64 a0 >>> (Int64.toUInt64 (Int32.toInt64 (1 : Int32)) &&& Int64.toUInt64 63)).toInt64) &&& (6148914691236517205 : Int64))) >>> (Int64.toUInt64 (Int32.toInt64 (2 : Int32)) &&& Int64.toUInt64 63)).toInt64) &&& (3689348814741910323 : Int64))) >>> (Int64.toUInt64 (Int32.toInt64 (4 : Int32)) &&& Int64.toUInt64 63)).toInt64)) &&& (1085102592571150095 : Int64)) + ((Int64.toUInt64 (((((a0 - (((Int64.toUInt64 a0 >>> (Int64.toUInt64 (Int32.toInt64 (1 : Int32)) &&& Int64.toUInt64 63)).toInt64) &&& (6148914691236517205 : Int64))) &&& (3689348814741910323 : Int64)) + (((Int64.toUInt64 (a0 - (((Int64.toUInt64 a0 >>> (Int64.toUInt64 (Int32.toInt64 (1 : Int32)) &&& Int64.toUInt64 63)).toInt64) &&& (6148914691236517205 : Int64))) >>> (Int64.toUInt64 (Int32.toInt64 (2 : Int32)) &&& Int64.toUInt64 63)).toInt64) &&& (3689348814741910323 : Int64))) + ((Int64.toUInt64 (((a0 - (((Int64.toUInt64 a0 >>> (Int64.toUInt64 (Int32.toInt64 (1 : Int32)) &&& Int64.toUInt64 63)).toInt64) &&& (6148914691236517205 : Int64))) &&& (3689348814741910323 : Int64)) + (((Int64.toUInt64 (a0 - (((Int64.toUInt64 a0 >>> (Int64.toUInt64 (Int32.toInt64 (1 : Int32)) &&& Int64.toUInt64 63)).toInt64) &&& (6148914691236517205 : Int64))) >>> (Int64.toUInt64 (Int32.toInt64 (2 : Int32)) &&& Int64.toUInt64 63)).toInt64) &&& (3689348814741910323 : Int64))) >>> (Int64.toUInt64 (Int32.toInt64 (4 : Int32)) &&& Int64.toUInt64 63)).toInt64)) &&& (1085102592571150095 : Int64)) >>> (Int64.toUInt64 (Int32.toInt64 (8 : Int32)) &&& Int64.toUInt64 63)).toInt64)) + ((Int64.toUInt64 ((((((a0 - (((Int64.toUInt64 a0 >>> (Int64.toUInt64 (Int32.toInt64 (1 : Int32)) &&& Int64.toUInt64 63)).toInt64) &&& (6148914691236517205 : Int64))) &&& (3689348814741910323 : Int64)) + (((Int64.toUInt64 (a0 - (((Int64.toUInt64 a0 >>> (Int64.toUInt64 (Int32.toInt64 (1 : Int32)) &&& Int64.toUInt64 63)).toInt64) &&& (6148914691236517205 : Int64))) >>> (Int64.toUInt64 (Int32.toInt64 (2 : Int32)) &&& Int64.toUInt64 63)).toInt64) &&& (3689348814741910323 : Int64))) + ((Int64.toUInt64 (((a0 - (((Int64.toUInt64 a0 >>> (Int64.toUInt64 (Int32.toInt64 (1 : Int32)) &&& Int64.toUInt64 63)).toInt64) &&& (6148914691236517205 : Int64))) &&& (3689348814741910323 : Int64)) + (((Int64.toUInt64 (a0 - (((Int64.toUInt64 a0 >>> (Int64.toUInt64 (Int32.toInt64 (1 : Int32)) &&& Int64.toUInt64 63)).toInt64) &&& (6148914691236517205 : Int64))) >>> (Int64.toUInt64 (Int32.toInt64 (2 : Int32)) &&& Int64.toUInt64 63)).toInt64) &&& (3689348814741910323 : Int64))) >>> (Int64.toUInt64 (Int32.toInt64 (4 : Int32)) &&& Int64.toUInt64 63)).toInt64)) &&& (1085102592571150095 : Int64)) + ((Int64.toUInt64 (((((a0 - (((Int64.toUInt64 a0 >>> (Int64.toUInt64 (Int32.toInt64 (1 : Int32)) &&& Int64.toUInt64 63)).toInt64) &&& (6148914691236517205 : Int64))) &&& (3689348814741910323 : Int64)) + (((Int64.toUInt64 (a0 - (((Int64.toUInt64 a0 >>> (Int64.toUInt64 (Int32.toInt64 (1 : Int32)) &&& Int64.toUInt64 63)).toInt64) &&& (6148914691236517205 : Int64))) >>> (Int64.toUInt64 (Int32.toInt64 (2 : Int32)) &&& Int64.toUInt64 63)).toInt64) &&& (3689348814741910323 : Int64))) + ((Int64.toUInt64 (((a0 - (((Int64.toUInt64 a0 >>> (Int64.toUInt64 (Int32.toInt64 (1 : Int32)) &&& Int64.toUInt64 63)).toInt64) &&& (6148914691236517205 : Int64))) &&& (3689348814741910323 : Int64)) + (((Int64.toUInt64 (a0 - (((Int64.toUInt64 a0 >>> (Int64.toUInt64 (Int32.toInt64 (1 : Int32)) &&& Int64.toUInt64 63)).toInt64) &&& (6148914691236517205 : Int64))) >>> (Int64.toUInt64 (Int32.toInt64 (2 : Int32)) &&& Int64.toUInt64 63)).toInt64) &&& (3689348814741910323 : Int64))) >>> (Int64.toUInt64 (Int32.toInt64 (4 : Int32)) &&& Int64.toUInt64 63)).toInt64)) &&& (1085102592571150095 : Int64)) >>> (Int64.toUInt64 (Int32.toInt64 (8 : Int32)) &&& Int64.toUInt64 63)).toInt64)) >>> (Int64.toUInt64 (Int32.toInt64 (16 : Int32)) &&& Int64.toUInt64 63)).toInt64)) >>> (Int64.toUInt64 (Int32.toInt64 (32 : Int32)) &&& Int64.toUInt64 63)).toInt64))) &&& (127 : Int32))
set_option maxRecDepth 20000 in
set_option maxHeartbeats 4000000 in
theorem w_j_Long_bitCount (Θ : TT) (σ : St) (a0 : Int64) (C : CX Θ cJ13_bitCount_95d88 RJ13 (some .int) ({ frames := 0, cells := 0, slots := 0, locals := 0 } : Room) 2) : WA LC Θ (fun r : Int32 => Qm LC Θ (some (.int r)) σ (True)) 0 [some (.long a0), none] [] σ (j_Long_bitCount a0) := by
  unfold j_Long_bitCount
  refine r_lload_n C dJ13_bitCount_95d88_0 rfl ?_
  refine r_lload_n C dJ13_bitCount_95d88_1 rfl ?_
  refine r_iconst C (1 : Int32) dJ13_bitCount_95d88_2 (by decide) ?_
  refine r_lushr C dJ13_bitCount_95d88_3 ?_
  refine r_ldc2 C dJ13_bitCount_95d88_4 kc_J13_314 ?_
  refine r_land C dJ13_bitCount_95d88_7 ?_
  refine r_lsub C dJ13_bitCount_95d88_8 ?_
  refine r_lstore_n C [some (.long (a0 - (((Int64.toUInt64 a0 >>> (Int64.toUInt64 (Int32.toInt64 (1 : Int32)) &&& Int64.toUInt64 63)).toInt64) &&& (6148914691236517205 : Int64)))), none] dJ13_bitCount_95d88_9 rfl (by decide) rfl ?_
  refine r_lload_n C dJ13_bitCount_95d88_10 rfl ?_
  refine r_ldc2 C dJ13_bitCount_95d88_11 kc_J13_316 ?_
  refine r_land C dJ13_bitCount_95d88_14 ?_
  refine r_lload_n C dJ13_bitCount_95d88_15 rfl ?_
  refine r_iconst C (2 : Int32) dJ13_bitCount_95d88_16 (by decide) ?_
  refine r_lushr C dJ13_bitCount_95d88_17 ?_
  refine r_ldc2 C dJ13_bitCount_95d88_18 kc_J13_316 ?_
  refine r_land C dJ13_bitCount_95d88_21 ?_
  refine r_ladd C dJ13_bitCount_95d88_22 ?_
  refine r_lstore_n C [some (.long (((a0 - (((Int64.toUInt64 a0 >>> (Int64.toUInt64 (Int32.toInt64 (1 : Int32)) &&& Int64.toUInt64 63)).toInt64) &&& (6148914691236517205 : Int64))) &&& (3689348814741910323 : Int64)) + (((Int64.toUInt64 (a0 - (((Int64.toUInt64 a0 >>> (Int64.toUInt64 (Int32.toInt64 (1 : Int32)) &&& Int64.toUInt64 63)).toInt64) &&& (6148914691236517205 : Int64))) >>> (Int64.toUInt64 (Int32.toInt64 (2 : Int32)) &&& Int64.toUInt64 63)).toInt64) &&& (3689348814741910323 : Int64)))), none] dJ13_bitCount_95d88_23 rfl (by decide) rfl ?_
  refine r_lload_n C dJ13_bitCount_95d88_24 rfl ?_
  refine r_lload_n C dJ13_bitCount_95d88_25 rfl ?_
  refine r_iconst C (4 : Int32) dJ13_bitCount_95d88_26 (by decide) ?_
  refine r_lushr C dJ13_bitCount_95d88_27 ?_
  refine r_ladd C dJ13_bitCount_95d88_28 ?_
  refine r_ldc2 C dJ13_bitCount_95d88_29 kc_J13_318 ?_
  refine r_land C dJ13_bitCount_95d88_32 ?_
  refine r_lstore_n C [some (.long (((((a0 - (((Int64.toUInt64 a0 >>> (Int64.toUInt64 (Int32.toInt64 (1 : Int32)) &&& Int64.toUInt64 63)).toInt64) &&& (6148914691236517205 : Int64))) &&& (3689348814741910323 : Int64)) + (((Int64.toUInt64 (a0 - (((Int64.toUInt64 a0 >>> (Int64.toUInt64 (Int32.toInt64 (1 : Int32)) &&& Int64.toUInt64 63)).toInt64) &&& (6148914691236517205 : Int64))) >>> (Int64.toUInt64 (Int32.toInt64 (2 : Int32)) &&& Int64.toUInt64 63)).toInt64) &&& (3689348814741910323 : Int64))) + ((Int64.toUInt64 (((a0 - (((Int64.toUInt64 a0 >>> (Int64.toUInt64 (Int32.toInt64 (1 : Int32)) &&& Int64.toUInt64 63)).toInt64) &&& (6148914691236517205 : Int64))) &&& (3689348814741910323 : Int64)) + (((Int64.toUInt64 (a0 - (((Int64.toUInt64 a0 >>> (Int64.toUInt64 (Int32.toInt64 (1 : Int32)) &&& Int64.toUInt64 63)).toInt64) &&& (6148914691236517205 : Int64))) >>> (Int64.toUInt64 (Int32.toInt64 (2 : Int32)) &&& Int64.toUInt64 63)).toInt64) &&& (3689348814741910323 : Int64))) >>> (Int64.toUInt64 (Int32.toInt64 (4 : Int32)) &&& Int64.toUInt64 63)).toInt64)) &&& (1085102592571150095 : Int64))), none] dJ13_bitCount_95d88_33 rfl (by decide) rfl ?_
  refine r_lload_n C dJ13_bitCount_95d88_34 rfl ?_
  refine r_lload_n C dJ13_bitCount_95d88_35 rfl ?_
  refine r_bipush C (8 : Int32) dJ13_bitCount_95d88_36 (by decide) ?_
  refine r_lushr C dJ13_bitCount_95d88_38 ?_
  refine r_ladd C dJ13_bitCount_95d88_39 ?_
  refine r_lstore_n C [some (.long ((((((a0 - (((Int64.toUInt64 a0 >>> (Int64.toUInt64 (Int32.toInt64 (1 : Int32)) &&& Int64.toUInt64 63)).toInt64) &&& (6148914691236517205 : Int64))) &&& (3689348814741910323 : Int64)) + (((Int64.toUInt64 (a0 - (((Int64.toUInt64 a0 >>> (Int64.toUInt64 (Int32.toInt64 (1 : Int32)) &&& Int64.toUInt64 63)).toInt64) &&& (6148914691236517205 : Int64))) >>> (Int64.toUInt64 (Int32.toInt64 (2 : Int32)) &&& Int64.toUInt64 63)).toInt64) &&& (3689348814741910323 : Int64))) + ((Int64.toUInt64 (((a0 - (((Int64.toUInt64 a0 >>> (Int64.toUInt64 (Int32.toInt64 (1 : Int32)) &&& Int64.toUInt64 63)).toInt64) &&& (6148914691236517205 : Int64))) &&& (3689348814741910323 : Int64)) + (((Int64.toUInt64 (a0 - (((Int64.toUInt64 a0 >>> (Int64.toUInt64 (Int32.toInt64 (1 : Int32)) &&& Int64.toUInt64 63)).toInt64) &&& (6148914691236517205 : Int64))) >>> (Int64.toUInt64 (Int32.toInt64 (2 : Int32)) &&& Int64.toUInt64 63)).toInt64) &&& (3689348814741910323 : Int64))) >>> (Int64.toUInt64 (Int32.toInt64 (4 : Int32)) &&& Int64.toUInt64 63)).toInt64)) &&& (1085102592571150095 : Int64)) + ((Int64.toUInt64 (((((a0 - (((Int64.toUInt64 a0 >>> (Int64.toUInt64 (Int32.toInt64 (1 : Int32)) &&& Int64.toUInt64 63)).toInt64) &&& (6148914691236517205 : Int64))) &&& (3689348814741910323 : Int64)) + (((Int64.toUInt64 (a0 - (((Int64.toUInt64 a0 >>> (Int64.toUInt64 (Int32.toInt64 (1 : Int32)) &&& Int64.toUInt64 63)).toInt64) &&& (6148914691236517205 : Int64))) >>> (Int64.toUInt64 (Int32.toInt64 (2 : Int32)) &&& Int64.toUInt64 63)).toInt64) &&& (3689348814741910323 : Int64))) + ((Int64.toUInt64 (((a0 - (((Int64.toUInt64 a0 >>> (Int64.toUInt64 (Int32.toInt64 (1 : Int32)) &&& Int64.toUInt64 63)).toInt64) &&& (6148914691236517205 : Int64))) &&& (3689348814741910323 : Int64)) + (((Int64.toUInt64 (a0 - (((Int64.toUInt64 a0 >>> (Int64.toUInt64 (Int32.toInt64 (1 : Int32)) &&& Int64.toUInt64 63)).toInt64) &&& (6148914691236517205 : Int64))) >>> (Int64.toUInt64 (Int32.toInt64 (2 : Int32)) &&& Int64.toUInt64 63)).toInt64) &&& (3689348814741910323 : Int64))) >>> (Int64.toUInt64 (Int32.toInt64 (4 : Int32)) &&& Int64.toUInt64 63)).toInt64)) &&& (1085102592571150095 : Int64)) >>> (Int64.toUInt64 (Int32.toInt64 (8 : Int32)) &&& Int64.toUInt64 63)).toInt64))), none] dJ13_bitCount_95d88_40 rfl (by decide) rfl ?_
  refine r_lload_n C dJ13_bitCount_95d88_41 rfl ?_
  refine r_lload_n C dJ13_bitCount_95d88_42 rfl ?_
  refine r_bipush C (16 : Int32) dJ13_bitCount_95d88_43 (by decide) ?_
  refine r_lushr C dJ13_bitCount_95d88_45 ?_
  refine r_ladd C dJ13_bitCount_95d88_46 ?_
  refine r_lstore_n C [some (.long (((((((a0 - (((Int64.toUInt64 a0 >>> (Int64.toUInt64 (Int32.toInt64 (1 : Int32)) &&& Int64.toUInt64 63)).toInt64) &&& (6148914691236517205 : Int64))) &&& (3689348814741910323 : Int64)) + (((Int64.toUInt64 (a0 - (((Int64.toUInt64 a0 >>> (Int64.toUInt64 (Int32.toInt64 (1 : Int32)) &&& Int64.toUInt64 63)).toInt64) &&& (6148914691236517205 : Int64))) >>> (Int64.toUInt64 (Int32.toInt64 (2 : Int32)) &&& Int64.toUInt64 63)).toInt64) &&& (3689348814741910323 : Int64))) + ((Int64.toUInt64 (((a0 - (((Int64.toUInt64 a0 >>> (Int64.toUInt64 (Int32.toInt64 (1 : Int32)) &&& Int64.toUInt64 63)).toInt64) &&& (6148914691236517205 : Int64))) &&& (3689348814741910323 : Int64)) + (((Int64.toUInt64 (a0 - (((Int64.toUInt64 a0 >>> (Int64.toUInt64 (Int32.toInt64 (1 : Int32)) &&& Int64.toUInt64 63)).toInt64) &&& (6148914691236517205 : Int64))) >>> (Int64.toUInt64 (Int32.toInt64 (2 : Int32)) &&& Int64.toUInt64 63)).toInt64) &&& (3689348814741910323 : Int64))) >>> (Int64.toUInt64 (Int32.toInt64 (4 : Int32)) &&& Int64.toUInt64 63)).toInt64)) &&& (1085102592571150095 : Int64)) + ((Int64.toUInt64 (((((a0 - (((Int64.toUInt64 a0 >>> (Int64.toUInt64 (Int32.toInt64 (1 : Int32)) &&& Int64.toUInt64 63)).toInt64) &&& (6148914691236517205 : Int64))) &&& (3689348814741910323 : Int64)) + (((Int64.toUInt64 (a0 - (((Int64.toUInt64 a0 >>> (Int64.toUInt64 (Int32.toInt64 (1 : Int32)) &&& Int64.toUInt64 63)).toInt64) &&& (6148914691236517205 : Int64))) >>> (Int64.toUInt64 (Int32.toInt64 (2 : Int32)) &&& Int64.toUInt64 63)).toInt64) &&& (3689348814741910323 : Int64))) + ((Int64.toUInt64 (((a0 - (((Int64.toUInt64 a0 >>> (Int64.toUInt64 (Int32.toInt64 (1 : Int32)) &&& Int64.toUInt64 63)).toInt64) &&& (6148914691236517205 : Int64))) &&& (3689348814741910323 : Int64)) + (((Int64.toUInt64 (a0 - (((Int64.toUInt64 a0 >>> (Int64.toUInt64 (Int32.toInt64 (1 : Int32)) &&& Int64.toUInt64 63)).toInt64) &&& (6148914691236517205 : Int64))) >>> (Int64.toUInt64 (Int32.toInt64 (2 : Int32)) &&& Int64.toUInt64 63)).toInt64) &&& (3689348814741910323 : Int64))) >>> (Int64.toUInt64 (Int32.toInt64 (4 : Int32)) &&& Int64.toUInt64 63)).toInt64)) &&& (1085102592571150095 : Int64)) >>> (Int64.toUInt64 (Int32.toInt64 (8 : Int32)) &&& Int64.toUInt64 63)).toInt64)) + ((Int64.toUInt64 ((((((a0 - (((Int64.toUInt64 a0 >>> (Int64.toUInt64 (Int32.toInt64 (1 : Int32)) &&& Int64.toUInt64 63)).toInt64) &&& (6148914691236517205 : Int64))) &&& (3689348814741910323 : Int64)) + (((Int64.toUInt64 (a0 - (((Int64.toUInt64 a0 >>> (Int64.toUInt64 (Int32.toInt64 (1 : Int32)) &&& Int64.toUInt64 63)).toInt64) &&& (6148914691236517205 : Int64))) >>> (Int64.toUInt64 (Int32.toInt64 (2 : Int32)) &&& Int64.toUInt64 63)).toInt64) &&& (3689348814741910323 : Int64))) + ((Int64.toUInt64 (((a0 - (((Int64.toUInt64 a0 >>> (Int64.toUInt64 (Int32.toInt64 (1 : Int32)) &&& Int64.toUInt64 63)).toInt64) &&& (6148914691236517205 : Int64))) &&& (3689348814741910323 : Int64)) + (((Int64.toUInt64 (a0 - (((Int64.toUInt64 a0 >>> (Int64.toUInt64 (Int32.toInt64 (1 : Int32)) &&& Int64.toUInt64 63)).toInt64) &&& (6148914691236517205 : Int64))) >>> (Int64.toUInt64 (Int32.toInt64 (2 : Int32)) &&& Int64.toUInt64 63)).toInt64) &&& (3689348814741910323 : Int64))) >>> (Int64.toUInt64 (Int32.toInt64 (4 : Int32)) &&& Int64.toUInt64 63)).toInt64)) &&& (1085102592571150095 : Int64)) + ((Int64.toUInt64 (((((a0 - (((Int64.toUInt64 a0 >>> (Int64.toUInt64 (Int32.toInt64 (1 : Int32)) &&& Int64.toUInt64 63)).toInt64) &&& (6148914691236517205 : Int64))) &&& (3689348814741910323 : Int64)) + (((Int64.toUInt64 (a0 - (((Int64.toUInt64 a0 >>> (Int64.toUInt64 (Int32.toInt64 (1 : Int32)) &&& Int64.toUInt64 63)).toInt64) &&& (6148914691236517205 : Int64))) >>> (Int64.toUInt64 (Int32.toInt64 (2 : Int32)) &&& Int64.toUInt64 63)).toInt64) &&& (3689348814741910323 : Int64))) + ((Int64.toUInt64 (((a0 - (((Int64.toUInt64 a0 >>> (Int64.toUInt64 (Int32.toInt64 (1 : Int32)) &&& Int64.toUInt64 63)).toInt64) &&& (6148914691236517205 : Int64))) &&& (3689348814741910323 : Int64)) + (((Int64.toUInt64 (a0 - (((Int64.toUInt64 a0 >>> (Int64.toUInt64 (Int32.toInt64 (1 : Int32)) &&& Int64.toUInt64 63)).toInt64) &&& (6148914691236517205 : Int64))) >>> (Int64.toUInt64 (Int32.toInt64 (2 : Int32)) &&& Int64.toUInt64 63)).toInt64) &&& (3689348814741910323 : Int64))) >>> (Int64.toUInt64 (Int32.toInt64 (4 : Int32)) &&& Int64.toUInt64 63)).toInt64)) &&& (1085102592571150095 : Int64)) >>> (Int64.toUInt64 (Int32.toInt64 (8 : Int32)) &&& Int64.toUInt64 63)).toInt64)) >>> (Int64.toUInt64 (Int32.toInt64 (16 : Int32)) &&& Int64.toUInt64 63)).toInt64))), none] dJ13_bitCount_95d88_47 rfl (by decide) rfl ?_
  refine r_lload_n C dJ13_bitCount_95d88_48 rfl ?_
  refine r_lload_n C dJ13_bitCount_95d88_49 rfl ?_
  refine r_bipush C (32 : Int32) dJ13_bitCount_95d88_50 (by decide) ?_
  refine r_lushr C dJ13_bitCount_95d88_52 ?_
  refine r_ladd C dJ13_bitCount_95d88_53 ?_
  refine r_lstore_n C [some (.long ((((((((a0 - (((Int64.toUInt64 a0 >>> (Int64.toUInt64 (Int32.toInt64 (1 : Int32)) &&& Int64.toUInt64 63)).toInt64) &&& (6148914691236517205 : Int64))) &&& (3689348814741910323 : Int64)) + (((Int64.toUInt64 (a0 - (((Int64.toUInt64 a0 >>> (Int64.toUInt64 (Int32.toInt64 (1 : Int32)) &&& Int64.toUInt64 63)).toInt64) &&& (6148914691236517205 : Int64))) >>> (Int64.toUInt64 (Int32.toInt64 (2 : Int32)) &&& Int64.toUInt64 63)).toInt64) &&& (3689348814741910323 : Int64))) + ((Int64.toUInt64 (((a0 - (((Int64.toUInt64 a0 >>> (Int64.toUInt64 (Int32.toInt64 (1 : Int32)) &&& Int64.toUInt64 63)).toInt64) &&& (6148914691236517205 : Int64))) &&& (3689348814741910323 : Int64)) + (((Int64.toUInt64 (a0 - (((Int64.toUInt64 a0 >>> (Int64.toUInt64 (Int32.toInt64 (1 : Int32)) &&& Int64.toUInt64 63)).toInt64) &&& (6148914691236517205 : Int64))) >>> (Int64.toUInt64 (Int32.toInt64 (2 : Int32)) &&& Int64.toUInt64 63)).toInt64) &&& (3689348814741910323 : Int64))) >>> (Int64.toUInt64 (Int32.toInt64 (4 : Int32)) &&& Int64.toUInt64 63)).toInt64)) &&& (1085102592571150095 : Int64)) + ((Int64.toUInt64 (((((a0 - (((Int64.toUInt64 a0 >>> (Int64.toUInt64 (Int32.toInt64 (1 : Int32)) &&& Int64.toUInt64 63)).toInt64) &&& (6148914691236517205 : Int64))) &&& (3689348814741910323 : Int64)) + (((Int64.toUInt64 (a0 - (((Int64.toUInt64 a0 >>> (Int64.toUInt64 (Int32.toInt64 (1 : Int32)) &&& Int64.toUInt64 63)).toInt64) &&& (6148914691236517205 : Int64))) >>> (Int64.toUInt64 (Int32.toInt64 (2 : Int32)) &&& Int64.toUInt64 63)).toInt64) &&& (3689348814741910323 : Int64))) + ((Int64.toUInt64 (((a0 - (((Int64.toUInt64 a0 >>> (Int64.toUInt64 (Int32.toInt64 (1 : Int32)) &&& Int64.toUInt64 63)).toInt64) &&& (6148914691236517205 : Int64))) &&& (3689348814741910323 : Int64)) + (((Int64.toUInt64 (a0 - (((Int64.toUInt64 a0 >>> (Int64.toUInt64 (Int32.toInt64 (1 : Int32)) &&& Int64.toUInt64 63)).toInt64) &&& (6148914691236517205 : Int64))) >>> (Int64.toUInt64 (Int32.toInt64 (2 : Int32)) &&& Int64.toUInt64 63)).toInt64) &&& (3689348814741910323 : Int64))) >>> (Int64.toUInt64 (Int32.toInt64 (4 : Int32)) &&& Int64.toUInt64 63)).toInt64)) &&& (1085102592571150095 : Int64)) >>> (Int64.toUInt64 (Int32.toInt64 (8 : Int32)) &&& Int64.toUInt64 63)).toInt64)) + ((Int64.toUInt64 ((((((a0 - (((Int64.toUInt64 a0 >>> (Int64.toUInt64 (Int32.toInt64 (1 : Int32)) &&& Int64.toUInt64 63)).toInt64) &&& (6148914691236517205 : Int64))) &&& (3689348814741910323 : Int64)) + (((Int64.toUInt64 (a0 - (((Int64.toUInt64 a0 >>> (Int64.toUInt64 (Int32.toInt64 (1 : Int32)) &&& Int64.toUInt64 63)).toInt64) &&& (6148914691236517205 : Int64))) >>> (Int64.toUInt64 (Int32.toInt64 (2 : Int32)) &&& Int64.toUInt64 63)).toInt64) &&& (3689348814741910323 : Int64))) + ((Int64.toUInt64 (((a0 - (((Int64.toUInt64 a0 >>> (Int64.toUInt64 (Int32.toInt64 (1 : Int32)) &&& Int64.toUInt64 63)).toInt64) &&& (6148914691236517205 : Int64))) &&& (3689348814741910323 : Int64)) + (((Int64.toUInt64 (a0 - (((Int64.toUInt64 a0 >>> (Int64.toUInt64 (Int32.toInt64 (1 : Int32)) &&& Int64.toUInt64 63)).toInt64) &&& (6148914691236517205 : Int64))) >>> (Int64.toUInt64 (Int32.toInt64 (2 : Int32)) &&& Int64.toUInt64 63)).toInt64) &&& (3689348814741910323 : Int64))) >>> (Int64.toUInt64 (Int32.toInt64 (4 : Int32)) &&& Int64.toUInt64 63)).toInt64)) &&& (1085102592571150095 : Int64)) + ((Int64.toUInt64 (((((a0 - (((Int64.toUInt64 a0 >>> (Int64.toUInt64 (Int32.toInt64 (1 : Int32)) &&& Int64.toUInt64 63)).toInt64) &&& (6148914691236517205 : Int64))) &&& (3689348814741910323 : Int64)) + (((Int64.toUInt64 (a0 - (((Int64.toUInt64 a0 >>> (Int64.toUInt64 (Int32.toInt64 (1 : Int32)) &&& Int64.toUInt64 63)).toInt64) &&& (6148914691236517205 : Int64))) >>> (Int64.toUInt64 (Int32.toInt64 (2 : Int32)) &&& Int64.toUInt64 63)).toInt64) &&& (3689348814741910323 : Int64))) + ((Int64.toUInt64 (((a0 - (((Int64.toUInt64 a0 >>> (Int64.toUInt64 (Int32.toInt64 (1 : Int32)) &&& Int64.toUInt64 63)).toInt64) &&& (6148914691236517205 : Int64))) &&& (3689348814741910323 : Int64)) + (((Int64.toUInt64 (a0 - (((Int64.toUInt64 a0 >>> (Int64.toUInt64 (Int32.toInt64 (1 : Int32)) &&& Int64.toUInt64 63)).toInt64) &&& (6148914691236517205 : Int64))) >>> (Int64.toUInt64 (Int32.toInt64 (2 : Int32)) &&& Int64.toUInt64 63)).toInt64) &&& (3689348814741910323 : Int64))) >>> (Int64.toUInt64 (Int32.toInt64 (4 : Int32)) &&& Int64.toUInt64 63)).toInt64)) &&& (1085102592571150095 : Int64)) >>> (Int64.toUInt64 (Int32.toInt64 (8 : Int32)) &&& Int64.toUInt64 63)).toInt64)) >>> (Int64.toUInt64 (Int32.toInt64 (16 : Int32)) &&& Int64.toUInt64 63)).toInt64)) + ((Int64.toUInt64 (((((((a0 - (((Int64.toUInt64 a0 >>> (Int64.toUInt64 (Int32.toInt64 (1 : Int32)) &&& Int64.toUInt64 63)).toInt64) &&& (6148914691236517205 : Int64))) &&& (3689348814741910323 : Int64)) + (((Int64.toUInt64 (a0 - (((Int64.toUInt64 a0 >>> (Int64.toUInt64 (Int32.toInt64 (1 : Int32)) &&& Int64.toUInt64 63)).toInt64) &&& (6148914691236517205 : Int64))) >>> (Int64.toUInt64 (Int32.toInt64 (2 : Int32)) &&& Int64.toUInt64 63)).toInt64) &&& (3689348814741910323 : Int64))) + ((Int64.toUInt64 (((a0 - (((Int64.toUInt64 a0 >>> (Int64.toUInt64 (Int32.toInt64 (1 : Int32)) &&& Int64.toUInt64 63)).toInt64) &&& (6148914691236517205 : Int64))) &&& (3689348814741910323 : Int64)) + (((Int64.toUInt64 (a0 - (((Int64.toUInt64 a0 >>> (Int64.toUInt64 (Int32.toInt64 (1 : Int32)) &&& Int64.toUInt64 63)).toInt64) &&& (6148914691236517205 : Int64))) >>> (Int64.toUInt64 (Int32.toInt64 (2 : Int32)) &&& Int64.toUInt64 63)).toInt64) &&& (3689348814741910323 : Int64))) >>> (Int64.toUInt64 (Int32.toInt64 (4 : Int32)) &&& Int64.toUInt64 63)).toInt64)) &&& (1085102592571150095 : Int64)) + ((Int64.toUInt64 (((((a0 - (((Int64.toUInt64 a0 >>> (Int64.toUInt64 (Int32.toInt64 (1 : Int32)) &&& Int64.toUInt64 63)).toInt64) &&& (6148914691236517205 : Int64))) &&& (3689348814741910323 : Int64)) + (((Int64.toUInt64 (a0 - (((Int64.toUInt64 a0 >>> (Int64.toUInt64 (Int32.toInt64 (1 : Int32)) &&& Int64.toUInt64 63)).toInt64) &&& (6148914691236517205 : Int64))) >>> (Int64.toUInt64 (Int32.toInt64 (2 : Int32)) &&& Int64.toUInt64 63)).toInt64) &&& (3689348814741910323 : Int64))) + ((Int64.toUInt64 (((a0 - (((Int64.toUInt64 a0 >>> (Int64.toUInt64 (Int32.toInt64 (1 : Int32)) &&& Int64.toUInt64 63)).toInt64) &&& (6148914691236517205 : Int64))) &&& (3689348814741910323 : Int64)) + (((Int64.toUInt64 (a0 - (((Int64.toUInt64 a0 >>> (Int64.toUInt64 (Int32.toInt64 (1 : Int32)) &&& Int64.toUInt64 63)).toInt64) &&& (6148914691236517205 : Int64))) >>> (Int64.toUInt64 (Int32.toInt64 (2 : Int32)) &&& Int64.toUInt64 63)).toInt64) &&& (3689348814741910323 : Int64))) >>> (Int64.toUInt64 (Int32.toInt64 (4 : Int32)) &&& Int64.toUInt64 63)).toInt64)) &&& (1085102592571150095 : Int64)) >>> (Int64.toUInt64 (Int32.toInt64 (8 : Int32)) &&& Int64.toUInt64 63)).toInt64)) + ((Int64.toUInt64 ((((((a0 - (((Int64.toUInt64 a0 >>> (Int64.toUInt64 (Int32.toInt64 (1 : Int32)) &&& Int64.toUInt64 63)).toInt64) &&& (6148914691236517205 : Int64))) &&& (3689348814741910323 : Int64)) + (((Int64.toUInt64 (a0 - (((Int64.toUInt64 a0 >>> (Int64.toUInt64 (Int32.toInt64 (1 : Int32)) &&& Int64.toUInt64 63)).toInt64) &&& (6148914691236517205 : Int64))) >>> (Int64.toUInt64 (Int32.toInt64 (2 : Int32)) &&& Int64.toUInt64 63)).toInt64) &&& (3689348814741910323 : Int64))) + ((Int64.toUInt64 (((a0 - (((Int64.toUInt64 a0 >>> (Int64.toUInt64 (Int32.toInt64 (1 : Int32)) &&& Int64.toUInt64 63)).toInt64) &&& (6148914691236517205 : Int64))) &&& (3689348814741910323 : Int64)) + (((Int64.toUInt64 (a0 - (((Int64.toUInt64 a0 >>> (Int64.toUInt64 (Int32.toInt64 (1 : Int32)) &&& Int64.toUInt64 63)).toInt64) &&& (6148914691236517205 : Int64))) >>> (Int64.toUInt64 (Int32.toInt64 (2 : Int32)) &&& Int64.toUInt64 63)).toInt64) &&& (3689348814741910323 : Int64))) >>> (Int64.toUInt64 (Int32.toInt64 (4 : Int32)) &&& Int64.toUInt64 63)).toInt64)) &&& (1085102592571150095 : Int64)) + ((Int64.toUInt64 (((((a0 - (((Int64.toUInt64 a0 >>> (Int64.toUInt64 (Int32.toInt64 (1 : Int32)) &&& Int64.toUInt64 63)).toInt64) &&& (6148914691236517205 : Int64))) &&& (3689348814741910323 : Int64)) + (((Int64.toUInt64 (a0 - (((Int64.toUInt64 a0 >>> (Int64.toUInt64 (Int32.toInt64 (1 : Int32)) &&& Int64.toUInt64 63)).toInt64) &&& (6148914691236517205 : Int64))) >>> (Int64.toUInt64 (Int32.toInt64 (2 : Int32)) &&& Int64.toUInt64 63)).toInt64) &&& (3689348814741910323 : Int64))) + ((Int64.toUInt64 (((a0 - (((Int64.toUInt64 a0 >>> (Int64.toUInt64 (Int32.toInt64 (1 : Int32)) &&& Int64.toUInt64 63)).toInt64) &&& (6148914691236517205 : Int64))) &&& (3689348814741910323 : Int64)) + (((Int64.toUInt64 (a0 - (((Int64.toUInt64 a0 >>> (Int64.toUInt64 (Int32.toInt64 (1 : Int32)) &&& Int64.toUInt64 63)).toInt64) &&& (6148914691236517205 : Int64))) >>> (Int64.toUInt64 (Int32.toInt64 (2 : Int32)) &&& Int64.toUInt64 63)).toInt64) &&& (3689348814741910323 : Int64))) >>> (Int64.toUInt64 (Int32.toInt64 (4 : Int32)) &&& Int64.toUInt64 63)).toInt64)) &&& (1085102592571150095 : Int64)) >>> (Int64.toUInt64 (Int32.toInt64 (8 : Int32)) &&& Int64.toUInt64 63)).toInt64)) >>> (Int64.toUInt64 (Int32.toInt64 (16 : Int32)) &&& Int64.toUInt64 63)).toInt64)) >>> (Int64.toUInt64 (Int32.toInt64 (32 : Int32)) &&& Int64.toUInt64 63)).toInt64))), none] dJ13_bitCount_95d88_54 rfl (by decide) rfl ?_
  refine r_lload_n C dJ13_bitCount_95d88_55 rfl ?_
  refine r_l2i C dJ13_bitCount_95d88_56 ?_
  refine r_bipush C (127 : Int32) dJ13_bitCount_95d88_57 (by decide) ?_
  refine r_iand C dJ13_bitCount_95d88_59 ?_
  exact r_iret C dJ13_bitCount_95d88_60 rfl rfl trivial
theorem c_j_Long_bitCount (l : Launch) (ω : Wd) (ad : Nat → Nat → Nat) (N : Nat → Nat) (σ : St) (a0 : Int64) : ∀ r : Int32, j_Long_bitCount a0 = some r → Ct l yJ13_bitCount_95d88 cJ13_bitCount_95d88 2 (some .int) ({ frames := 0, cells := 0, slots := 0, locals := 0 } : Room) LC ω ad N [.long a0] σ (some (.int r)) σ (True) :=
  ct_of (o := fun r : Int32 => (some (.int r))) (s' := fun r => σ) (P := fun r => True) [some (.long a0), none] (by decide) rfl (Nat.le_of_ble_eq_true rfl) (fun Γ C _ _ => w_j_Long_bitCount (Γ, ω, 2, ad, N, 0, 0) σ a0 C)
theorem vw_X8_gainOf : VW yX8_gainOf cX8_gainOf 4 (some .int) 2 := ⟨⟨(in_wt 83 (by decide +kernel) (by decide +kernel)), (in_wt 1172 (by decide +kernel) (by decide +kernel)), by decide +kernel⟩, (in_wt 1171 (by decide +kernel) (by decide +kernel)), (in_wt 37 (by decide +kernel) (by decide +kernel))⟩
theorem vw_X8_goers : VW yX8_goers cX8_goers 6 (some .long) 2 := ⟨⟨(in_wt 83 (by decide +kernel) (by decide +kernel)), (in_wt 1179 (by decide +kernel) (by decide +kernel)), by decide +kernel⟩, (in_wt 1178 (by decide +kernel) (by decide +kernel)), (in_wt 38 (by decide +kernel) (by decide +kernel))⟩
theorem vw_X8_placeOf : VW yX8_placeOf cX8_placeOf 3 (some .int) 1 := ⟨⟨(in_wt 83 (by decide +kernel) (by decide +kernel)), (in_wt 1146 (by decide +kernel) (by decide +kernel)), by decide +kernel⟩, (in_wt 1144 (by decide +kernel) (by decide +kernel)), (in_wt 1145 (by decide +kernel) (by decide +kernel))⟩
theorem sw_J13_bitCount_95d88 : SW yJ13_bitCount_95d88 cJ13_bitCount_95d88 2 (some .int) 1 := ⟨⟨(in_wt 96 (by decide +kernel) (by decide +kernel)), (in_wt 1182 (by decide +kernel) (by decide +kernel)), by decide +kernel⟩, (in_wt 1181 (by decide +kernel) (by decide +kernel))⟩
theorem ml_X8_100 : Cond.methodLink RX8 100 yX8_goers ∈ wt := in_wt 1176 (by decide +kernel) (by decide +kernel)
theorem ml_X8_104 : Cond.methodLink RX8 104 yJ13_bitCount_95d88 ∈ wt := in_wt 1180 (by decide +kernel) (by decide +kernel)
theorem ml_X8_92 : Cond.methodLink RX8 92 yX8_placeOf ∈ wt := in_wt 1168 (by decide +kernel) (by decide +kernel)
theorem ml_X8_96 : Cond.methodLink RX8 96 yX8_gainOf ∈ wt := in_wt 1169 (by decide +kernel) (by decide +kernel)
/-- PostsEnd$Ranks.int movedBy(int, PostsEnd$Telling, int) -/
def p_Ranks_movedBy (σ : St) (a1 : Int32) (a2 : Nat) (a3 : Int32) : Option (Int32 × St) := (Option.bind (itr0 (S := Int32 × St) (E := St) (fun s1 => (if s1.1 < s1.2.1 0 3 5 then (Option.bind (ix 40 s1.1) fun i29 => (Option.bind (ix 40 s1.1) fun i30 => (lt1 (sx s1.2 0 20 i30 (s1.2.1 0 19 i29)) fun σ31 => some (.inl (s1.1 + (1 : Int32), σ31))))) else some (.inr s1.2))) FU ((0 : Int32), σ)) fun e6 => (lt1 (e6.2 3 a2 0) fun x9 => (Option.elim x9 none fun q11 => (Option.bind (p_Ranks_placeOf e6 q11) fun r13 => (Option.bind (α := St) ((if r13 < 0 then some e6 else (Option.bind (ix 40 r13) fun i24 => (Option.bind (p_Ranks_gainOf e6 a2 a3) fun r25 => (Option.bind (ix 40 r13) fun i27 => (lt1 (sx e6 0 20 i27 ((e6.1 0 20 i24) + r25)) fun σ28 => some σ28)))))) fun t15 => (Option.bind (p_Ranks_goers t15 19 a1) fun r18 => (Option.bind (p_Ranks_goers t15 20 a1) fun r20 => (Option.bind (j_Long_bitCount (r18 ^^^ r20)) fun r22 => some (r22, t15)))))))))
set_option maxRecDepth 20000 in
set_option maxHeartbeats 4000000 in
theorem w_p_Ranks_movedBy (Θ : TT) (σ : St) (a1 : Int32) (a2 : Nat) (a3 : Int32) (b2 : a2 < cN Θ 3) (C : CX Θ cX8_movedBy RX8 (some .int) ({ frames := 3, cells := 0, slots := 0, locals := 72 } : Room) 5) : WA LC Θ (fun r : Int32 × St => Qm LC Θ (some (.int r.1)) r.2 (True)) 0 [some (.ref (cF Θ 3)), some (.int a1), some (.ref (cAd Θ 3 a2)), some (.int a3), none] [] σ (p_Ranks_movedBy σ a1 a2 a3) := by
  unfold p_Ranks_movedBy
  refine r_iconst C (0 : Int32) dX8_movedBy_0 (by decide) ?_
  refine r_istore C [some (.ref (cF Θ 3)), some (.int a1), some (.ref (cAd Θ 3 a2)), some (.int a3), some (.int (0 : Int32))] dX8_movedBy_1 rfl (by decide) rfl ?_
  refine WA.join (α := St) 32 (fun e6 => [some (.ref (cF Θ 3)), some (.int a1), some (.ref (cAd Θ 3 a2)), some (.int a3), none]) (fun e6 => []) (fun e6 => e6) (fun e6 => True) (fun e6 h7 => ?_) (fun J8 => ?_)
  · refine r_aload_n C dX8_movedBy_32 rfl ?_
    refine r_aload_n C dX8_movedBy_33 rfl ?_
    refine r_getQ C dX8_movedBy_34 (fg_X8_86 _) (by decide) b2 (fun x9 h10 => ?_)
    rcases x9 with _ | q11
    · exact WA.non
    have h12 := h10 q11 rfl
    refine WA.els ?_
    refine r_callV C (st := []) (As := [.ref (cAd Θ 2 q11)]) (d := 0) (j := 3) dX8_movedBy_37 ml_X8_92 vw_X8_placeOf ⟨_, _, _, _, rfl, rfl⟩ (dm0 (by decide)) (fun r13 e => c_p_Ranks_placeOf Θ.1.2.1 (cW Θ) (cAd Θ) (cN Θ) e6 q11 h12 r13 e) rfl rfl (Nat.le_of_ble_eq_true rfl) ⟨rfl, rfl, by decide, by decide⟩ (fun r13 h14 => ?_)
    refine r_istore C [some (.ref (cF Θ 3)), some (.int a1), some (.ref (cAd Θ 3 a2)), some (.int a3), some (.int r13)] dX8_movedBy_40 rfl (by decide) rfl ?_
    refine r_iload C dX8_movedBy_42 rfl ?_
    refine WA.join (α := St) 63 (fun t15 => [some (.ref (cF Θ 3)), some (.int a1), none, none, none]) (fun t15 => []) (fun t15 => t15) (fun t15 => True) (fun t15 h16 => ?_) (fun J17 => ?_)
    · refine r_aload_n C dX8_movedBy_63 rfl ?_
      refine r_aload_n C dX8_movedBy_64 rfl ?_
      refine r_getF0 C dX8_movedBy_65 fg_X8_17 (by decide) ?_
      refine r_iload_n C dX8_movedBy_68 rfl ?_
      refine r_callV C (st := []) (As := [.ref (cF Θ 19), .int a1]) (d := 0) (j := 3) dX8_movedBy_69 ml_X8_100 vw_X8_goers ⟨_, _, _, _, rfl, rfl⟩ (dm0 (by decide)) (fun r18 e => c_p_Ranks_goers Θ.1.2.1 (cW Θ) (cAd Θ) (cN Θ) t15 19 a1 ag_LC_19 r18 e) rfl rfl (Nat.le_of_ble_eq_true rfl) ⟨rfl, rfl, by decide, by decide⟩ (fun r18 h19 => ?_)
      refine r_aload_n C dX8_movedBy_72 rfl ?_
      refine r_aload_n C dX8_movedBy_73 rfl ?_
      refine r_getF0 C dX8_movedBy_74 fg_X8_21 (by decide) ?_
      refine r_iload_n C dX8_movedBy_77 rfl ?_
      refine r_callV C (st := [.long r18]) (As := [.ref (cF Θ 20), .int a1]) (d := 0) (j := 3) dX8_movedBy_78 ml_X8_100 vw_X8_goers ⟨_, _, _, _, rfl, rfl⟩ (dm0 (by decide)) (fun r20 e => c_p_Ranks_goers Θ.1.2.1 (cW Θ) (cAd Θ) (cN Θ) t15 20 a1 ag_LC_20 r20 e) rfl rfl (Nat.le_of_ble_eq_true rfl) ⟨rfl, rfl, by decide, by decide⟩ (fun r20 h21 => ?_)
      refine r_lxor C dX8_movedBy_81 ?_
      refine r_callS C (st := []) (As := [.long (r18 ^^^ r20)]) dX8_movedBy_82 ml_X8_104 sw_J13_bitCount_95d88 (fun r22 e => c_j_Long_bitCount Θ.1.2.1 (cW Θ) (cAd Θ) (cN Θ) t15 (r18 ^^^ r20) r22 e) rfl rfl (Nat.le_of_ble_eq_true rfl) ⟨rfl, rfl, by decide, by decide⟩ (fun r22 h23 => ?_)
      exact r_iret C dX8_movedBy_85 rfl rfl trivial
    · refine WA.bif ?_
      refine r_if_lt C 63 dX8_movedBy_44 (by decide) ?_ ?_
      · refine WA.wk (lv' := [some (.ref (cF Θ 3)), some (.int a1), none, none, none]) [true, true, false, false, false] rfl ?_
        exact J17 e6 trivial
      · refine r_aload_n C dX8_movedBy_47 rfl ?_
        refine r_getF0 C dX8_movedBy_48 fg_X8_21 (by decide) ?_
        refine r_iload C dX8_movedBy_51 rfl ?_
        refine r_dup2 C dX8_movedBy_53 rfl rfl ?_
        refine WA.asc ?_
        refine r_iald (α := Unit) C dX8_movedBy_54 ag_LC_20 (fun i24 => ?_)
        refine r_aload_n C dX8_movedBy_55 rfl ?_
        refine r_aload_n C dX8_movedBy_56 rfl ?_
        refine r_iload_n C dX8_movedBy_57 rfl ?_
        refine WA.asc ?_
        refine r_callV C (st := [.int (e6.1 0 20 i24), .int r13, .ref (cF Θ 20)]) (As := [.ref (cAd Θ 3 a2), .int a3]) (d := 0) (j := 3) dX8_movedBy_58 ml_X8_96 vw_X8_gainOf ⟨_, _, _, _, rfl, rfl⟩ (dm0 (by decide)) (fun r25 e => c_p_Ranks_gainOf Θ.1.2.1 (cW Θ) (cAd Θ) (cN Θ) e6 a2 a3 b2 r25 e) rfl rfl (Nat.le_of_ble_eq_true rfl) ⟨rfl, rfl, by decide, by decide⟩ (fun r25 h26 => ?_)
        refine r_iadd C dX8_movedBy_61 ?_
        refine WA.asc ?_
        refine r_iast C dX8_movedBy_62 ag_LC_20 (fun i27 => ?_)
        refine WA.genB (fun σ28 => ?_)
        refine WA.wk (lv' := [some (.ref (cF Θ 3)), some (.int a1), none, none, none]) [true, true, false, false, false] rfl ?_
        exact J17 σ28 trivial
  · refine WA.wk (lv' := [some (.ref (cF Θ 3)), some (.int a1), some (.ref (cAd Θ 3 a2)), some (.int a3), some (.int (0 : Int32))]) [true, true, true, true, true] rfl ?_
    refine WA.itr (S := Int32 × St) 3 (fun s1 => [some (.ref (cF Θ 3)), some (.int a1), some (.ref (cAd Θ 3 a2)), some (.int a3), some (.int s1.1)]) (fun s1 => []) (fun s1 => s1.2) (fun s1 => True) (fun s1 k5 h2 ih3 hx4 => ?_) FU ((0 : Int32), σ) trivial
    refine r_iload C dX8_movedBy_3 rfl ?_
    refine r_aload_n C dX8_movedBy_5 rfl ?_
    refine r_getI0 C dX8_movedBy_6 fg_X8_31 (by decide) ?_
    refine WA.bif ?_
    refine r_icmp_ge C 32 dX8_movedBy_9 (by decide) ?_ ?_
    · refine WA.wk (lv' := [some (.ref (cF Θ 3)), some (.int a1), some (.ref (cAd Θ 3 a2)), some (.int a3), none]) [true, true, true, true, false] rfl ?_
      exact WA.eqK (hx4 _) (J8 s1.2 trivial)
    · refine r_aload_n C dX8_movedBy_12 rfl ?_
      refine r_getF0 C dX8_movedBy_13 fg_X8_21 (by decide) ?_
      refine r_iload C dX8_movedBy_16 rfl ?_
      refine r_aload_n C dX8_movedBy_18 rfl ?_
      refine r_getF0 C dX8_movedBy_19 fg_X8_17 (by decide) ?_
      refine r_iload C dX8_movedBy_22 rfl ?_
      refine WA.asc ?_
      refine r_iald (α := Unit) C dX8_movedBy_24 ag_LC_19 (fun i29 => ?_)
      refine WA.asc ?_
      refine r_iast C dX8_movedBy_25 ag_LC_20 (fun i30 => ?_)
      refine WA.genB (fun σ31 => ?_)
      refine r_iinc C (1 : Int32) [some (.ref (cF Θ 3)), some (.int a1), some (.ref (cAd Θ 3 a2)), some (.int a3), some (.int (s1.1 + (1 : Int32)))] dX8_movedBy_26 (by decide) rfl rfl (by decide) rfl ?_
      refine r_goto C 3 dX8_movedBy_29 (by decide) ?_
      refine WA.wk (lv' := [some (.ref (cF Θ 3)), some (.int a1), some (.ref (cAd Θ 3 a2)), some (.int a3), some (.int (s1.1 + (1 : Int32)))]) [true, true, true, true, true] rfl ?_
      exact ih3 (s1.1 + (1 : Int32), σ31) trivial
theorem c_p_Ranks_movedBy (l : Launch) (ω : Wd) (ad : Nat → Nat → Nat) (N : Nat → Nat) (σ : St) (a1 : Int32) (a2 : Nat) (a3 : Int32) (b2 : a2 < N 3) : ∀ r : Int32 × St, p_Ranks_movedBy σ a1 a2 a3 = some r → Ct l yX8_movedBy cX8_movedBy 5 (some .int) ({ frames := 3, cells := 0, slots := 0, locals := 72 } : Room) LC ω ad N [.ref (ω.2.1 3), .int a1, .ref (ad 3 a2), .int a3] σ (some (.int r.1)) r.2 (True) :=
  ct_of (o := fun r : Int32 × St => (some (.int r.1))) (s' := fun r => r.2) (P := fun r => True) [some (.ref (ω.2.1 3)), some (.int a1), some (.ref (ad 3 a2)), some (.int a3), none] (by decide) rfl (Nat.le_of_ble_eq_true rfl) (fun Γ C _ _ => w_p_Ranks_movedBy (Γ, ω, 5, ad, N, 0, 0) σ a1 a2 a3 b2 C)
theorem fpi_X9_13 (j : Nat) : FPi LC RX9 13 4 j 1 (0, 0) .int := ⟨_, _, _, _, _, tyX9, rfl, rfl, rfl, by decide, uw_X9, (in_wt 688 (by decide +kernel) (by decide +kernel)), tyX9_ok, nmX9, rfl, rfl, by decide +kernel⟩
theorem fpi_X9_16 (j : Nat) : FPi LC RX9 16 4 j 2 (5, 0) (.object "PostsEnd$Righting") := ⟨_, _, _, _, _, tyX9, rfl, rfl, rfl, by decide, uw_X9, (in_wt 690 (by decide +kernel) (by decide +kernel)), tyX9_ok, nmX9, rfl, rfl, by decide +kernel⟩
theorem fpi_X9_7 (j : Nat) : FPi LC RX9 7 4 j 0 (0, 0) .int := ⟨_, _, _, _, _, tyX9, rfl, rfl, rfl, by decide, uw_X9, (in_wt 686 (by decide +kernel) (by decide +kernel)), tyX9_ok, nmX9, rfl, rfl, by decide +kernel⟩
theorem oi_X9_1 : Cond.methodLink RX9 1 Lib.objectInit ∈ wt ∧ Cond.instanceMethod Lib.objectInit ∈ wt ∧ Cond.code Lib.objectInit ⟨#[0xb1]⟩ 1 none ∈ wt := ⟨(in_wt 685 (by decide +kernel) (by decide +kernel)), (in_wt 103 (by decide +kernel) (by decide +kernel)), (in_wt 104 (by decide +kernel) (by decide +kernel))⟩
/-- PostsEnd$Righting.PostsEnd$Righting(int, int, PostsEnd$Righting) -/
def p_Righting_init (σ : St) (a0 : Nat) (a1 : Int32) (a2 : Int32) (a3 : Option Nat) : Option St := (lt1 (sx σ 4 a0 0 a1) fun σ1 => (lt1 (sx σ1 4 a0 1 a2) fun σ2 => (lt1 (sy σ2 4 a0 2 a3) fun σ3 => some σ3)))
set_option maxRecDepth 20000 in
set_option maxHeartbeats 4000000 in
theorem w_p_Righting_init (Θ : TT) (σ : St) (a0 : Nat) (a1 : Int32) (a2 : Int32) (a3 : Option Nat) (b0 : a0 < cN Θ 4) (b3 : ∀ q, a3 = some q → q < cN Θ 4) (hnm : Θ.1.2.2.2.2.2.2.2.2.1.name = "<init>") (C : CX Θ cX9_init RX9 none ({ frames := 1, cells := 0, slots := 0, locals := 12 } : Room) 4) : WA LC Θ (fun r : St => Qm LC Θ none r (True)) 0 [some (.ref (cAd Θ 4 a0)), some (.int a1), some (.int a2), some (va_rf (Option.map (cAd Θ 4) a3))] [] σ (p_Righting_init σ a0 a1 a2 a3) := by
  unfold p_Righting_init
  refine r_aload_n C dX9_init_0 rfl ?_
  refine r_objInit C dX9_init_1 oi_X9_1 (by decide) (Nat.le_of_ble_eq_true rfl) ?_
  refine r_aload_n C dX9_init_4 rfl ?_
  refine r_iload_n C dX9_init_5 rfl ?_
  refine r_putFI C hnm dX9_init_6 (fpi_X9_7 _) (by decide) b0 ?_
  refine WA.gen (fun σ1 => ?_)
  refine r_aload_n C dX9_init_9 rfl ?_
  refine r_iload_n C dX9_init_10 rfl ?_
  refine r_putFI C hnm dX9_init_11 (fpi_X9_13 _) (by decide) b0 ?_
  refine WA.gen (fun σ2 => ?_)
  refine r_aload_n C dX9_init_14 rfl ?_
  refine r_aload_nQ C (x := Option.map (cAd Θ 4) a3) dX9_init_15 rfl ?_
  refine r_putFQ C hnm (x := a3) dX9_init_16 (fpi_X9_16 _) (by decide) b0 b3 ?_
  refine WA.gen (fun σ3 => ?_)
  exact r_vret C dX9_init_19 rfl rfl trivial
theorem c_p_Righting_init (l : Launch) (ω : Wd) (ad : Nat → Nat → Nat) (N : Nat → Nat) (σ : St) (a0 : Nat) (a1 : Int32) (a2 : Int32) (a3 : Option Nat) (b0 : a0 < N 4) (b3 : ∀ q, a3 = some q → q < N 4) : ∀ r : St, p_Righting_init σ a0 a1 a2 a3 = some r → Ct l yX9_init cX9_init 4 none ({ frames := 1, cells := 0, slots := 0, locals := 12 } : Room) LC ω ad N [.ref (ad 4 a0), .int a1, .int a2, va_rf (Option.map (ad 4) a3)] σ none r (True) :=
  ct_of (o := fun r : St => none) (s' := fun r => r) (P := fun r => True) [some (.ref (ad 4 a0)), some (.int a1), some (.int a2), some (va_rf (Option.map (ad 4) a3))] (by decide) (by simp [pr, lv_args, cat_rf, cat_i, cat_r]) (by simp [lg_sl, cat_rf, cat_i, cat_r]) (fun Γ C _ hn => w_p_Righting_init (Γ, ω, 4, ad, N, 0, 0) σ a0 a1 a2 a3 b0 b3 hn C)
theorem iw_X9_init : MW yX9_init cX9_init 4 none 3 ∧ Cond.instanceMethod yX9_init ∈ wt := ⟨⟨(in_wt 92 (by decide +kernel) (by decide +kernel)), (in_wt 684 (by decide +kernel) (by decide +kernel)), by decide +kernel⟩, (in_wt 683 (by decide +kernel) (by decide +kernel))⟩
theorem fg_X10_36 (j : Nat) : FG LC RX10 36 3 j 6 (0, 0) := ⟨_, _, _, _, _, rfl, rfl, rfl, by decide, uw_X10, (in_wt 648 (by decide +kernel) (by decide +kernel))⟩
theorem fp_X10_29 (j : Nat) : FP LC RX10 29 3 j 5 (5, 0) (.object "PostsEnd$Righting") := ⟨_, _, _, _, _, tyX10, rfl, rfl, rfl, by decide, uw_X10, (in_wt 647 (by decide +kernel) (by decide +kernel)), tyX10_ok, nmX10, rfl, by decide +kernel⟩
theorem fp_X10_36 (j : Nat) : FP LC RX10 36 3 j 6 (0, 0) .int := ⟨_, _, _, _, _, tyX10, rfl, rfl, rfl, by decide, uw_X10, (in_wt 648 (by decide +kernel) (by decide +kernel)), tyX10_ok, nmX10, rfl, by decide +kernel⟩
theorem ml_X10_33 : Cond.methodLink RX10 33 yX9_init ∈ wt := in_wt 682 (by decide +kernel) (by decide +kernel)
theorem nw_X10_27 : NWd LC RX10 27 4 3 := ⟨_, _, _, _, tyX9, fun _ => rfl, rfl, uw_X9, (in_wt 680 (by decide +kernel) (by decide +kernel)), (in_wt 681 (by decide +kernel) (by decide +kernel)), (in_wt 92 (by decide +kernel) (by decide +kernel)), tyX9_ok, (fun k hk => by rcases (show k = 0 ∨ k = 1 ∨ k = 2 by omega) with rfl | rfl | rfl <;> rfl), rfl, rfl⟩
/-- PostsEnd$Telling.int putRight(int, int) -/
def p_Telling_putRight (σ : St) (n : Nat) (a0 : Nat) (a1 : Int32) (a2 : Int32) : Option ((Int32 × St) × Nat) := (lt1 (clr σ 4 n) fun σ1 => (lt1 (σ1.2 3 a0 5) fun x2 => (Option.bind (p_Righting_init σ1 n a1 a2 x2) fun r4 => (lt1 (sy r4 3 a0 5 (some n)) fun σ6 => (lt1 (sx σ6 3 a0 6 ((σ6.1 3 a0 6) + (1 : Int32))) fun σ7 => some ((σ7.1 3 a0 6, σ7), n + 1))))))
set_option maxRecDepth 20000 in
set_option maxHeartbeats 4000000 in
theorem w_p_Telling_putRight (Θ : TT) (σ : St) (n : Nat) (a0 : Nat) (a1 : Int32) (a2 : Int32) (b0 : a0 < cN Θ 3) (bn : cN Θ 4 = n) (hc0 : cC Θ = (0, 0)) (C : CX Θ cX10_putRight RX10 (some .int) ({ frames := 2, cells := 1, slots := 3, locals := 35 } : Room) 3) : WA LC Θ (fun r : (Int32 × St) × Nat => QmA LC Θ 4 1 3 (some (.int r.1.1)) r.1.2 r.2 True) 0 [some (.ref (cAd Θ 3 a0)), some (.int a1), some (.int a2)] [] σ (p_Telling_putRight σ n a0 a1 a2) := by
  unfold p_Telling_putRight
  refine r_aload_n C dX10_putRight_0 rfl ?_
  refine r_new C dX10_putRight_1 nw_X10_27 (by decide) bn (by rw [hc0]; decide) (by rw [hc0]; decide) (fun Θ1 C1 E => ?_)
  have b0 := E.lt b0
  have hnn : n < cN Θ1 4 := by rw [E.hN]; exact Nat.lt_succ_self n
  refine WA.rl (lv' := [some (.ref (cAd Θ1 3 a0)), some (.int a1), some (.int a2)]) (st' := [.ref (cAd Θ1 4 n), .ref (cAd Θ1 3 a0)]) (by simp [va_rf, E.hF, E.hA (show 3 ≠ 4 by decide)]) (by simp [va_rf, E.hF, E.hA (show 3 ≠ 4 by decide)]) ?_
  refine WA.gen (fun σ1 => ?_)
  refine r_dup C1 dX10_putRight_4 rfl ?_
  refine r_iload_n C1 dX10_putRight_5 rfl ?_
  refine r_iload_n C1 dX10_putRight_6 rfl ?_
  refine r_aload_n C1 dX10_putRight_7 rfl ?_
  refine r_getQ C1 dX10_putRight_8 (fg_X10_29 _) (by decide) b0 (fun x2 h3 => ?_)
  refine r_callI C1 (st := [.ref (cAd Θ1 4 n), .ref (cAd Θ1 3 a0)]) (As := [.int a1, .int a2, va_rf (Option.map (cAd Θ1 4) x2)]) (b := (cAd Θ1 4 n)) dX10_putRight_11 ml_X10_33 iw_X9_init rfl (fun r4 e => c_p_Righting_init Θ1.1.2.1 (cW Θ1) (cAd Θ1) (cN Θ1) σ1 n a1 a2 x2 hnn h3 r4 e) rfl rfl (Nat.le_of_ble_eq_true rfl) ⟨rfl, rfl, by decide, by decide⟩ (fun r4 h5 => ?_)
  refine r_putQ C1 (x := (some n)) dX10_putRight_14 (fp_X10_29 _) (by decide) b0 (fun q e => (Option.some.inj e) ▸ hnn) ?_
  refine WA.gen (fun σ6 => ?_)
  refine r_aload_n C1 dX10_putRight_17 rfl ?_
  refine r_dup C1 dX10_putRight_18 rfl ?_
  refine r_getI C1 dX10_putRight_19 (fg_X10_36 _) (by decide) b0 ?_
  refine r_iconst C1 (1 : Int32) dX10_putRight_22 (by decide) ?_
  refine r_iadd C1 dX10_putRight_23 ?_
  refine r_putI C1 dX10_putRight_24 (fp_X10_36 _) (by decide) b0 ?_
  refine WA.gen (fun σ7 => ?_)
  refine r_aload_n C1 dX10_putRight_27 rfl ?_
  refine r_getI C1 dX10_putRight_28 (fg_X10_36 _) (by decide) b0 ?_
  exact r_iretA C1 E (by rw [hc0]; decide) (by rw [hc0]; decide) dX10_putRight_31 rfl rfl rfl trivial
theorem c_p_Telling_putRight (l : Launch) (ω : Wd) (ad : Nat → Nat → Nat) (N : Nat → Nat) (σ : St) (n : Nat) (a0 : Nat) (a1 : Int32) (a2 : Int32) (b0 : a0 < N 3) (bn : N 4 = n) : ∀ r : (Int32 × St) × Nat, p_Telling_putRight σ n a0 a1 a2 = some r → CtA l yX10_putRight cX10_putRight 3 (some .int) ({ frames := 2, cells := 1, slots := 3, locals := 35 } : Room) LC ω ad N [.ref (ad 3 a0), .int a1, .int a2] σ 4 1 3 (some (.int r.1.1)) r.1.2 r.2 True :=
  ct_ofA (o := fun r : (Int32 × St) × Nat => some (.int r.1.1)) (s' := fun r => r.1.2) (n' := fun r => r.2) (P := fun _ => True) [some (.ref (ad 3 a0)), some (.int a1), some (.int a2)] (by decide) rfl (Nat.le_of_ble_eq_true rfl) (fun Γ C _ => w_p_Telling_putRight (Γ, ω, 3, ad, N, 0, 0) σ n a0 a1 a2 b0 bn rfl C)
theorem ag_LC_8 : AG LC 8 0 7 := ⟨by decide, rfl⟩
theorem fg_X11_60 : FG LC RX11 60 0 0 7 (1, 8) := ⟨_, _, _, _, _, rfl, rfl, rfl, by decide, uw_X11, (in_wt 389 (by decide +kernel) (by decide +kernel))⟩
/-- PostsEnd.private int refuse(int) -/
def p_PE_refuse (σ : St) (a1 : Int32) : Option (Int32 × St) := (Option.bind (α := St) ((if -a1 < (1 : Int32) then some σ else (if (6 : Int32) < -a1 then some σ else (Option.bind (ix 7 (-a1)) fun i4 => (Option.bind (ix 7 (-a1)) fun i5 => (lt1 (sx σ 0 8 i5 ((σ.1 0 8 i4) + (1 : Int32))) fun σ6 => some σ6)))))) fun t1 => some (a1, t1))
set_option maxRecDepth 20000 in
set_option maxHeartbeats 4000000 in
theorem w_p_PE_refuse (Θ : TT) (σ : St) (a1 : Int32) (C : CX Θ cX11_refuse RX11 (some .int) ({ frames := 0, cells := 0, slots := 0, locals := 0 } : Room) 3) : WA LC Θ (fun r : Int32 × St => Qm LC Θ (some (.int r.1)) r.2 (True)) 0 [some (.ref (cF Θ 0)), some (.int a1), none] [] σ (p_PE_refuse σ a1) := by
  unfold p_PE_refuse
  refine r_iload_n C dX11_refuse_0 rfl ?_
  refine r_ineg C dX11_refuse_1 ?_
  refine r_istore_n C [some (.ref (cF Θ 0)), some (.int a1), some (.int (-a1))] dX11_refuse_2 rfl (by decide) rfl ?_
  refine r_iload_n C dX11_refuse_3 rfl ?_
  refine r_iconst C (1 : Int32) dX11_refuse_4 (by decide) ?_
  refine WA.join (α := St) 24 (fun t1 => [none, some (.int a1), none]) (fun t1 => []) (fun t1 => t1) (fun t1 => True) (fun t1 h2 => ?_) (fun J3 => ?_)
  · refine r_iload_n C dX11_refuse_24 rfl ?_
    exact r_iret C dX11_refuse_25 rfl rfl trivial
  · refine WA.bif ?_
    refine r_icmp_lt C 24 dX11_refuse_5 (by decide) ?_ ?_
    · refine WA.wk (lv' := [none, some (.int a1), none]) [false, true, false] rfl ?_
      exact J3 σ trivial
    · refine r_iload_n C dX11_refuse_8 rfl ?_
      refine r_bipush C (6 : Int32) dX11_refuse_9 (by decide) ?_
      refine WA.bif ?_
      refine r_icmp_gt C 24 dX11_refuse_11 (by decide) ?_ ?_
      · refine WA.wk (lv' := [none, some (.int a1), none]) [false, true, false] rfl ?_
        exact J3 σ trivial
      · refine r_aload_n C dX11_refuse_14 rfl ?_
        refine r_getF0 C dX11_refuse_15 fg_X11_60 (by decide) ?_
        refine r_iload_n C dX11_refuse_18 rfl ?_
        refine r_dup2 C dX11_refuse_19 rfl rfl ?_
        refine WA.asc ?_
        refine r_iald (α := Unit) C dX11_refuse_20 ag_LC_8 (fun i4 => ?_)
        refine r_iconst C (1 : Int32) dX11_refuse_21 (by decide) ?_
        refine r_iadd C dX11_refuse_22 ?_
        refine WA.asc ?_
        refine r_iast C dX11_refuse_23 ag_LC_8 (fun i5 => ?_)
        refine WA.genB (fun σ6 => ?_)
        refine WA.wk (lv' := [none, some (.int a1), none]) [false, true, false] rfl ?_
        exact J3 σ6 trivial
theorem c_p_PE_refuse (l : Launch) (ω : Wd) (ad : Nat → Nat → Nat) (N : Nat → Nat) (σ : St) (a1 : Int32) : ∀ r : Int32 × St, p_PE_refuse σ a1 = some r → Ct l yX11_refuse cX11_refuse 3 (some .int) ({ frames := 0, cells := 0, slots := 0, locals := 0 } : Room) LC ω ad N [.ref (ω.2.1 0), .int a1] σ (some (.int r.1)) r.2 (True) :=
  ct_of (o := fun r : Int32 × St => (some (.int r.1))) (s' := fun r => r.2) (P := fun r => True) [some (.ref (ω.2.1 0)), some (.int a1), none] (by decide) rfl (Nat.le_of_ble_eq_true rfl) (fun Γ C _ _ => w_p_PE_refuse (Γ, ω, 3, ad, N, 0, 0) σ a1 C)
theorem vw_X11_refuse : VW yX11_refuse cX11_refuse 3 (some .int) 1 := ⟨⟨(in_wt 80 (by decide +kernel) (by decide +kernel)), (in_wt 414 (by decide +kernel) (by decide +kernel)), by decide +kernel⟩, (in_wt 413 (by decide +kernel) (by decide +kernel)), (in_wt 0 (by decide +kernel) (by decide +kernel))⟩
theorem fg_X11_10 : FG LC RX11 10 0 0 0 (1, 1) := ⟨_, _, _, _, _, rfl, rfl, rfl, by decide, uw_X11, (in_wt 382 (by decide +kernel) (by decide +kernel))⟩
theorem fg_X11_68 : FG LC RX11 68 0 1 0 (0, 0) := ⟨_, _, _, _, _, rfl, rfl, rfl, by decide, uw_X3, (in_wt 117 (by decide +kernel) (by decide +kernel))⟩
theorem fp_X11_68 : FP LC RX11 68 0 1 0 (0, 0) .int := ⟨_, _, _, _, _, tyX3, rfl, rfl, rfl, by decide, uw_X3, (in_wt 117 (by decide +kernel) (by decide +kernel)), tyX3_ok, nmX3, rfl, by decide +kernel⟩
theorem ml_X11_64 : Cond.methodLink RX11 64 yX11_refuse ∈ wt := in_wt 411 (by decide +kernel) (by decide +kernel)
/-- PostsEnd.public int days(int) -/
def p_PE_days (σ : St) (a1 : Int32) : Option (Int32 × St) := (if a1 < (1 : Int32) then (Option.bind (p_PE_refuse σ (-4 : Int32)) fun r4 => some (r4.1, r4.2)) else (if (3000 : Int32) - (σ.1 0 1 0) < a1 then (Option.bind (p_PE_refuse σ (-6 : Int32)) fun r2 => some (r2.1, r2.2)) else (lt1 (sx σ 0 1 0 ((σ.1 0 1 0) + a1)) fun σ1 => some (σ1.1 0 1 0, σ1))))
set_option maxRecDepth 20000 in
set_option maxHeartbeats 4000000 in
theorem w_p_PE_days (Θ : TT) (σ : St) (a1 : Int32) (C : CX Θ cX11_days RX11 (some .int) ({ frames := 1, cells := 0, slots := 0, locals := 22 } : Room) 2) : WA LC Θ (fun r : Int32 × St => Qm LC Θ (some (.int r.1)) r.2 (True)) 0 [some (.ref (cF Θ 0)), some (.int a1)] [] σ (p_PE_days σ a1) := by
  unfold p_PE_days
  refine r_iload_n C dX11_days_0 rfl ?_
  refine r_iconst C (1 : Int32) dX11_days_1 (by decide) ?_
  refine r_icmp_ge C 12 dX11_days_2 (by decide) ?_ ?_
  · refine r_iload_n C dX11_days_12 rfl ?_
    refine r_sipush C (3000 : Int32) dX11_days_13 (by decide) ?_
    refine r_aload_n C dX11_days_16 rfl ?_
    refine r_getF0 C dX11_days_17 fg_X11_10 (by decide) ?_
    refine r_getI0 C dX11_days_20 fg_X11_68 (by decide) ?_
    refine r_isub C dX11_days_23 ?_
    refine r_icmp_le C 34 dX11_days_24 (by decide) ?_ ?_
    · refine r_aload_n C dX11_days_34 rfl ?_
      refine r_getF0 C dX11_days_35 fg_X11_10 (by decide) ?_
      refine r_dup C dX11_days_38 rfl ?_
      refine r_getI0 C dX11_days_39 fg_X11_68 (by decide) ?_
      refine r_iload_n C dX11_days_42 rfl ?_
      refine r_iadd C dX11_days_43 ?_
      refine r_putI0 C dX11_days_44 fp_X11_68 (by decide) ?_
      refine WA.gen (fun σ1 => ?_)
      refine r_aload_n C dX11_days_47 rfl ?_
      refine r_getF0 C dX11_days_48 fg_X11_10 (by decide) ?_
      refine r_getI0 C dX11_days_51 fg_X11_68 (by decide) ?_
      exact r_iret C dX11_days_54 rfl rfl trivial
    · refine r_aload_n C dX11_days_27 rfl ?_
      refine r_bipush C (-6 : Int32) dX11_days_28 (by decide) ?_
      refine r_callV C (st := []) (As := [.int (-6 : Int32)]) (d := 0) (j := 0) dX11_days_30 ml_X11_64 vw_X11_refuse ⟨_, _, _, _, rfl, rfl⟩ (dm0 (by decide)) (fun r2 e => c_p_PE_refuse Θ.1.2.1 (cW Θ) (cAd Θ) (cN Θ) σ (-6 : Int32) r2 e) rfl rfl (Nat.le_of_ble_eq_true rfl) ⟨rfl, rfl, by decide, by decide⟩ (fun r2 h3 => ?_)
      exact r_iret C dX11_days_33 rfl rfl trivial
  · refine r_aload_n C dX11_days_5 rfl ?_
    refine r_bipush C (-4 : Int32) dX11_days_6 (by decide) ?_
    refine r_callV C (st := []) (As := [.int (-4 : Int32)]) (d := 0) (j := 0) dX11_days_8 ml_X11_64 vw_X11_refuse ⟨_, _, _, _, rfl, rfl⟩ (dm0 (by decide)) (fun r4 e => c_p_PE_refuse Θ.1.2.1 (cW Θ) (cAd Θ) (cN Θ) σ (-4 : Int32) r4 e) rfl rfl (Nat.le_of_ble_eq_true rfl) ⟨rfl, rfl, by decide, by decide⟩ (fun r4 h5 => ?_)
    exact r_iret C dX11_days_11 rfl rfl trivial
theorem c_p_PE_days (l : Launch) (ω : Wd) (ad : Nat → Nat → Nat) (N : Nat → Nat) (σ : St) (a1 : Int32) : ∀ r : Int32 × St, p_PE_days σ a1 = some r → Ct l yX11_days cX11_days 2 (some .int) ({ frames := 1, cells := 0, slots := 0, locals := 22 } : Room) LC ω ad N [.ref (ω.2.1 0), .int a1] σ (some (.int r.1)) r.2 (True) :=
  ct_of (o := fun r : Int32 × St => (some (.int r.1))) (s' := fun r => r.2) (P := fun r => True) [some (.ref (ω.2.1 0)), some (.int a1)] (by decide) rfl (Nat.le_of_ble_eq_true rfl) (fun Γ C _ _ => w_p_PE_days (Γ, ω, 2, ad, N, 0, 0) σ a1 C)
theorem vw_X3_addUnit : VW yX3_addUnit cX3_addUnit 3 (some .int) 1 := ⟨⟨(in_wt 81 (by decide +kernel) (by decide +kernel)), (in_wt 426 (by decide +kernel) (by decide +kernel)), by decide +kernel⟩, (in_wt 424 (by decide +kernel) (by decide +kernel)), (in_wt 425 (by decide +kernel) (by decide +kernel))⟩
theorem fg_X11_76 : FG LC RX11 76 0 1 1 (0, 0) := ⟨_, _, _, _, _, rfl, rfl, rfl, by decide, uw_X3, (in_wt 123 (by decide +kernel) (by decide +kernel))⟩
theorem ml_X11_72 : Cond.methodLink RX11 72 yX3_isUnit ∈ wt := in_wt 419 (by decide +kernel) (by decide +kernel)
theorem ml_X11_79 : Cond.methodLink RX11 79 yX3_addUnit ∈ wt := in_wt 423 (by decide +kernel) (by decide +kernel)
/-- PostsEnd.public int unit(int, int) -/
def p_PE_unit (σ : St) (a1 : Int32) (a2 : Int32) : Option (Int32 × St) := (if a2 = (-1 : Int32) then (if a1 < 0 then (Option.bind (p_PE_refuse σ (-4 : Int32)) fun r7 => some (r7.1, r7.2)) else (if a1 < (4 : Int32) then (if σ.1 0 1 1 < (12 : Int32) then (Option.bind (p_Firm_addUnit σ a2) fun r3 => some (r3.1, r3.2)) else (Option.bind (p_PE_refuse σ (-6 : Int32)) fun r5 => some (r5.1, r5.2))) else (Option.bind (p_PE_refuse σ (-6 : Int32)) fun r1 => some (r1.1, r1.2)))) else (Option.bind (p_Firm_isUnit σ a2) fun r9 => (if r9 = 0 then (Option.bind (p_PE_refuse σ (-1 : Int32)) fun r19 => some (r19.1, r19.2)) else (if a1 < 0 then (Option.bind (p_PE_refuse σ (-4 : Int32)) fun r17 => some (r17.1, r17.2)) else (if a1 < (4 : Int32) then (if σ.1 0 1 1 < (12 : Int32) then (Option.bind (p_Firm_addUnit σ a2) fun r13 => some (r13.1, r13.2)) else (Option.bind (p_PE_refuse σ (-6 : Int32)) fun r15 => some (r15.1, r15.2))) else (Option.bind (p_PE_refuse σ (-6 : Int32)) fun r11 => some (r11.1, r11.2)))))))
set_option maxRecDepth 20000 in
set_option maxHeartbeats 4000000 in
theorem w_p_PE_unit (Θ : TT) (σ : St) (a1 : Int32) (a2 : Int32) (C : CX Θ cX11_unit RX11 (some .int) ({ frames := 2, cells := 0, slots := 0, locals := 43 } : Room) 3) : WA LC Θ (fun r : Int32 × St => Qm LC Θ (some (.int r.1)) r.2 (True)) 0 [some (.ref (cF Θ 0)), some (.int a1), some (.int a2)] [] σ (p_PE_unit σ a1 a2) := by
  unfold p_PE_unit
  refine r_iload_n C dX11_unit_0 rfl ?_
  refine r_iconst C (-1 : Int32) dX11_unit_1 (by decide) ?_
  refine r_icmp_eq C 22 dX11_unit_2 (by decide) ?_ ?_
  · refine r_iload_n C dX11_unit_22 rfl ?_
    refine r_if_ge C 33 dX11_unit_23 (by decide) ?_ ?_
    · refine r_iload_n C dX11_unit_33 rfl ?_
      refine r_iconst C (4 : Int32) dX11_unit_34 (by decide) ?_
      refine r_icmp_ge C 50 dX11_unit_35 (by decide) ?_ ?_
      · refine r_aload_n C dX11_unit_50 rfl ?_
        refine r_bipush C (-6 : Int32) dX11_unit_51 (by decide) ?_
        refine r_callV C (st := []) (As := [.int (-6 : Int32)]) (d := 0) (j := 0) dX11_unit_53 ml_X11_64 vw_X11_refuse ⟨_, _, _, _, rfl, rfl⟩ (dm0 (by decide)) (fun r1 e => c_p_PE_refuse Θ.1.2.1 (cW Θ) (cAd Θ) (cN Θ) σ (-6 : Int32) r1 e) rfl rfl (Nat.le_of_ble_eq_true rfl) ⟨rfl, rfl, by decide, by decide⟩ (fun r1 h2 => ?_)
        exact r_iret C dX11_unit_56 rfl rfl trivial
      · refine r_aload_n C dX11_unit_38 rfl ?_
        refine r_getF0 C dX11_unit_39 fg_X11_10 (by decide) ?_
        refine r_getI0 C dX11_unit_42 fg_X11_76 (by decide) ?_
        refine r_bipush C (12 : Int32) dX11_unit_45 (by decide) ?_
        refine r_icmp_lt C 57 dX11_unit_47 (by decide) ?_ ?_
        · refine r_aload_n C dX11_unit_57 rfl ?_
          refine r_getF0 C dX11_unit_58 fg_X11_10 (by decide) ?_
          refine r_iload_n C dX11_unit_61 rfl ?_
          refine r_callV C (st := []) (As := [.int a2]) (d := 0) (j := 1) dX11_unit_62 ml_X11_79 vw_X3_addUnit ⟨_, _, _, _, rfl, rfl⟩ (dm0 (by decide)) (fun r3 e => c_p_Firm_addUnit Θ.1.2.1 (cW Θ) (cAd Θ) (cN Θ) σ a2 r3 e) rfl rfl (Nat.le_of_ble_eq_true rfl) ⟨rfl, rfl, by decide, by decide⟩ (fun r3 h4 => ?_)
          exact r_iret C dX11_unit_65 rfl rfl trivial
        · refine r_aload_n C dX11_unit_50 rfl ?_
          refine r_bipush C (-6 : Int32) dX11_unit_51 (by decide) ?_
          refine r_callV C (st := []) (As := [.int (-6 : Int32)]) (d := 0) (j := 0) dX11_unit_53 ml_X11_64 vw_X11_refuse ⟨_, _, _, _, rfl, rfl⟩ (dm0 (by decide)) (fun r5 e => c_p_PE_refuse Θ.1.2.1 (cW Θ) (cAd Θ) (cN Θ) σ (-6 : Int32) r5 e) rfl rfl (Nat.le_of_ble_eq_true rfl) ⟨rfl, rfl, by decide, by decide⟩ (fun r5 h6 => ?_)
          exact r_iret C dX11_unit_56 rfl rfl trivial
    · refine r_aload_n C dX11_unit_26 rfl ?_
      refine r_bipush C (-4 : Int32) dX11_unit_27 (by decide) ?_
      refine r_callV C (st := []) (As := [.int (-4 : Int32)]) (d := 0) (j := 0) dX11_unit_29 ml_X11_64 vw_X11_refuse ⟨_, _, _, _, rfl, rfl⟩ (dm0 (by decide)) (fun r7 e => c_p_PE_refuse Θ.1.2.1 (cW Θ) (cAd Θ) (cN Θ) σ (-4 : Int32) r7 e) rfl rfl (Nat.le_of_ble_eq_true rfl) ⟨rfl, rfl, by decide, by decide⟩ (fun r7 h8 => ?_)
      exact r_iret C dX11_unit_32 rfl rfl trivial
  · refine r_aload_n C dX11_unit_5 rfl ?_
    refine r_getF0 C dX11_unit_6 fg_X11_10 (by decide) ?_
    refine r_iload_n C dX11_unit_9 rfl ?_
    refine r_callV C (st := []) (As := [.int a2]) (d := 0) (j := 1) dX11_unit_10 ml_X11_72 vw_X3_isUnit ⟨_, _, _, _, rfl, rfl⟩ (dm0 (by decide)) (fun r9 e => c_p_Firm_isUnit Θ.1.2.1 (cW Θ) (cAd Θ) (cN Θ) σ a2 r9 e) rfl rfl (Nat.le_of_ble_eq_true rfl) ⟨rfl, rfl, by decide, by decide⟩ (fun r9 h10 => ?_)
    refine r_if_ne C 22 dX11_unit_13 (by decide) ?_ ?_
    · refine r_iload_n C dX11_unit_22 rfl ?_
      refine r_if_ge C 33 dX11_unit_23 (by decide) ?_ ?_
      · refine r_iload_n C dX11_unit_33 rfl ?_
        refine r_iconst C (4 : Int32) dX11_unit_34 (by decide) ?_
        refine r_icmp_ge C 50 dX11_unit_35 (by decide) ?_ ?_
        · refine r_aload_n C dX11_unit_50 rfl ?_
          refine r_bipush C (-6 : Int32) dX11_unit_51 (by decide) ?_
          refine r_callV C (st := []) (As := [.int (-6 : Int32)]) (d := 0) (j := 0) dX11_unit_53 ml_X11_64 vw_X11_refuse ⟨_, _, _, _, rfl, rfl⟩ (dm0 (by decide)) (fun r11 e => c_p_PE_refuse Θ.1.2.1 (cW Θ) (cAd Θ) (cN Θ) σ (-6 : Int32) r11 e) rfl rfl (Nat.le_of_ble_eq_true rfl) ⟨rfl, rfl, by decide, by decide⟩ (fun r11 h12 => ?_)
          exact r_iret C dX11_unit_56 rfl rfl trivial
        · refine r_aload_n C dX11_unit_38 rfl ?_
          refine r_getF0 C dX11_unit_39 fg_X11_10 (by decide) ?_
          refine r_getI0 C dX11_unit_42 fg_X11_76 (by decide) ?_
          refine r_bipush C (12 : Int32) dX11_unit_45 (by decide) ?_
          refine r_icmp_lt C 57 dX11_unit_47 (by decide) ?_ ?_
          · refine r_aload_n C dX11_unit_57 rfl ?_
            refine r_getF0 C dX11_unit_58 fg_X11_10 (by decide) ?_
            refine r_iload_n C dX11_unit_61 rfl ?_
            refine r_callV C (st := []) (As := [.int a2]) (d := 0) (j := 1) dX11_unit_62 ml_X11_79 vw_X3_addUnit ⟨_, _, _, _, rfl, rfl⟩ (dm0 (by decide)) (fun r13 e => c_p_Firm_addUnit Θ.1.2.1 (cW Θ) (cAd Θ) (cN Θ) σ a2 r13 e) rfl rfl (Nat.le_of_ble_eq_true rfl) ⟨rfl, rfl, by decide, by decide⟩ (fun r13 h14 => ?_)
            exact r_iret C dX11_unit_65 rfl rfl trivial
          · refine r_aload_n C dX11_unit_50 rfl ?_
            refine r_bipush C (-6 : Int32) dX11_unit_51 (by decide) ?_
            refine r_callV C (st := []) (As := [.int (-6 : Int32)]) (d := 0) (j := 0) dX11_unit_53 ml_X11_64 vw_X11_refuse ⟨_, _, _, _, rfl, rfl⟩ (dm0 (by decide)) (fun r15 e => c_p_PE_refuse Θ.1.2.1 (cW Θ) (cAd Θ) (cN Θ) σ (-6 : Int32) r15 e) rfl rfl (Nat.le_of_ble_eq_true rfl) ⟨rfl, rfl, by decide, by decide⟩ (fun r15 h16 => ?_)
            exact r_iret C dX11_unit_56 rfl rfl trivial
      · refine r_aload_n C dX11_unit_26 rfl ?_
        refine r_bipush C (-4 : Int32) dX11_unit_27 (by decide) ?_
        refine r_callV C (st := []) (As := [.int (-4 : Int32)]) (d := 0) (j := 0) dX11_unit_29 ml_X11_64 vw_X11_refuse ⟨_, _, _, _, rfl, rfl⟩ (dm0 (by decide)) (fun r17 e => c_p_PE_refuse Θ.1.2.1 (cW Θ) (cAd Θ) (cN Θ) σ (-4 : Int32) r17 e) rfl rfl (Nat.le_of_ble_eq_true rfl) ⟨rfl, rfl, by decide, by decide⟩ (fun r17 h18 => ?_)
        exact r_iret C dX11_unit_32 rfl rfl trivial
    · refine r_aload_n C dX11_unit_16 rfl ?_
      refine r_iconst C (-1 : Int32) dX11_unit_17 (by decide) ?_
      refine r_callV C (st := []) (As := [.int (-1 : Int32)]) (d := 0) (j := 0) dX11_unit_18 ml_X11_64 vw_X11_refuse ⟨_, _, _, _, rfl, rfl⟩ (dm0 (by decide)) (fun r19 e => c_p_PE_refuse Θ.1.2.1 (cW Θ) (cAd Θ) (cN Θ) σ (-1 : Int32) r19 e) rfl rfl (Nat.le_of_ble_eq_true rfl) ⟨rfl, rfl, by decide, by decide⟩ (fun r19 h20 => ?_)
      exact r_iret C dX11_unit_21 rfl rfl trivial
theorem c_p_PE_unit (l : Launch) (ω : Wd) (ad : Nat → Nat → Nat) (N : Nat → Nat) (σ : St) (a1 : Int32) (a2 : Int32) : ∀ r : Int32 × St, p_PE_unit σ a1 a2 = some r → Ct l yX11_unit cX11_unit 3 (some .int) ({ frames := 2, cells := 0, slots := 0, locals := 43 } : Room) LC ω ad N [.ref (ω.2.1 0), .int a1, .int a2] σ (some (.int r.1)) r.2 (True) :=
  ct_of (o := fun r : Int32 × St => (some (.int r.1))) (s' := fun r => r.2) (P := fun r => True) [some (.ref (ω.2.1 0)), some (.int a1), some (.int a2)] (by decide) rfl (Nat.le_of_ble_eq_true rfl) (fun Γ C _ _ => w_p_PE_unit (Γ, ω, 3, ad, N, 0, 0) σ a1 a2 C)
