theorem fg_X3_135 (j : Nat) : FG LC RX3 135 1 j 4 (0, 0) := ⟨_, _, _, _, _, rfl, rfl, rfl, by decide, uw_X7, (in_wt 452 (by decide +kernel) (by decide +kernel))⟩
/-- PostsEnd$Firm.int fitFor(PostsEnd$Person, PostsEnd$Post) -/
def p_Firm_fitFor (σ : St) (a1 : Nat) (a2 : Nat) : Option Int32 := (lt1 (σ.2 2 a1 4) fun x1 => (Option.bind (p_PE_skillFor σ a1 a2) fun r3 => (Option.elim x1 (some (r3 - ((10 : Int32) * (if (0 : Int32) ≤ (σ.1 1 a2 3) - (1 : Int32) then (σ.1 1 a2 3) - (1 : Int32) else (0 : Int32) - ((σ.1 1 a2 3) - (1 : Int32)))))) fun q5 => some ((r3 - ((10 : Int32) * (if (0 : Int32) ≤ (σ.1 1 a2 3) - (σ.1 1 q5 3) then (σ.1 1 a2 3) - (σ.1 1 q5 3) else (0 : Int32) - ((σ.1 1 a2 3) - (σ.1 1 q5 3))))) - ((2 : Int32) * (if (0 : Int32) ≤ (σ.1 1 a2 4) - (σ.1 1 q5 4) then (σ.1 1 a2 4) - (σ.1 1 q5 4) else (0 : Int32) - ((σ.1 1 a2 4) - (σ.1 1 q5 4))))))))
set_option maxRecDepth 20000 in
set_option maxHeartbeats 4000000 in
theorem w_p_Firm_fitFor (Θ : TT) (σ : St) (a1 : Nat) (a2 : Nat) (b1 : a1 < cN Θ 2) (b2 : a2 < cN Θ 1) (C : CX Θ cX3_fitFor RX3 (some .int) ({ frames := 2, cells := 0, slots := 0, locals := 42 } : Room) 5) : WA LC Θ (fun r : Int32 => Qm LC Θ (some (.int r)) σ (True)) 0 [some (.ref (cF Θ 1)), some (.ref (cAd Θ 2 a1)), some (.ref (cAd Θ 1 a2)), none, none] [] σ (p_Firm_fitFor σ a1 a2) := by
  unfold p_Firm_fitFor
  refine r_aload_n C dX3_fitFor_0 rfl ?_
  refine r_getQ C dX3_fitFor_1 (fg_X3_114 _) (by decide) b1 (fun x1 h2 => ?_)
  refine r_astore_n C (x := Option.map (cAd Θ 1) x1) [some (.ref (cF Θ 1)), some (.ref (cAd Θ 2 a1)), some (.ref (cAd Θ 1 a2)), some (va_rf (Option.map (cAd Θ 1) x1)), none] dX3_fitFor_4 rfl (by decide) rfl ?_
  refine r_aload_n C dX3_fitFor_5 rfl ?_
  refine r_aload_n C dX3_fitFor_6 rfl ?_
  refine r_callN C (st := []) (As := [.ref (cAd Θ 2 a1), .ref (cAd Θ 1 a2)]) dX3_fitFor_7 nl_X3_121 sw_X11_skillFor (fun r3 e => c_p_PE_skillFor Θ.1.2.1 (cW Θ) (cAd Θ) (cN Θ) σ a1 a2 b1 b2 r3 e) rfl rfl (Nat.le_of_ble_eq_true rfl) ⟨rfl, rfl, by decide, by decide⟩ (fun r3 h4 => ?_)
  refine r_istore C [some (.ref (cF Θ 1)), some (.ref (cAd Θ 2 a1)), some (.ref (cAd Θ 1 a2)), some (va_rf (Option.map (cAd Θ 1) x1)), some (.int r3)] dX3_fitFor_10 rfl (by decide) (lvok_q (x := Option.map (cAd Θ 1) x1) rfl) ?_
  refine r_aload_nQ C (x := Option.map (cAd Θ 1) x1) dX3_fitFor_12 rfl ?_
  rcases x1 with _ | q5
  · refine r_ifnonnullN C dX3_fitFor_13 ?_
    refine r_iload C dX3_fitFor_16 rfl ?_
    refine r_bipush C (10 : Int32) dX3_fitFor_18 (by decide) ?_
    refine r_aload_n C dX3_fitFor_20 rfl ?_
    refine r_getI C dX3_fitFor_21 (fg_X3_80 _) (by decide) b2 ?_
    refine r_iconst C (1 : Int32) dX3_fitFor_24 (by decide) ?_
    refine r_isub C dX3_fitFor_25 ?_
    refine r_mabs C dX3_fitFor_26 jw_X3_83 (by decide) (Nat.le_of_ble_eq_true rfl) ?_
    refine r_imul C dX3_fitFor_29 ?_
    refine r_isub C dX3_fitFor_30 ?_
    exact r_iret C dX3_fitFor_31 rfl rfl trivial
  · have h6 := h2 q5 rfl
    refine r_ifnonnullS C 32 dX3_fitFor_13 (by decide) ?_
    refine r_iload C dX3_fitFor_32 rfl ?_
    refine r_bipush C (10 : Int32) dX3_fitFor_34 (by decide) ?_
    refine r_aload_n C dX3_fitFor_36 rfl ?_
    refine r_getI C dX3_fitFor_37 (fg_X3_80 _) (by decide) b2 ?_
    refine r_aload_n C dX3_fitFor_40 rfl ?_
    refine r_getI C dX3_fitFor_41 (fg_X3_80 _) (by decide) h6 ?_
    refine r_isub C dX3_fitFor_44 ?_
    refine r_mabs C dX3_fitFor_45 jw_X3_83 (by decide) (Nat.le_of_ble_eq_true rfl) ?_
    refine r_imul C dX3_fitFor_48 ?_
    refine r_isub C dX3_fitFor_49 ?_
    refine r_iconst C (2 : Int32) dX3_fitFor_50 (by decide) ?_
    refine r_aload_n C dX3_fitFor_51 rfl ?_
    refine r_getI C dX3_fitFor_52 (fg_X3_135 _) (by decide) b2 ?_
    refine r_aload_n C dX3_fitFor_55 rfl ?_
    refine r_getI C dX3_fitFor_56 (fg_X3_135 _) (by decide) h6 ?_
    refine r_isub C dX3_fitFor_59 ?_
    refine r_mabs C dX3_fitFor_60 jw_X3_83 (by decide) (Nat.le_of_ble_eq_true rfl) ?_
    refine r_imul C dX3_fitFor_63 ?_
    refine r_isub C dX3_fitFor_64 ?_
    exact r_iret C dX3_fitFor_65 rfl rfl trivial
theorem c_p_Firm_fitFor (l : Launch) (ω : Wd) (ad : Nat → Nat → Nat) (N : Nat → Nat) (σ : St) (a1 : Nat) (a2 : Nat) (b1 : a1 < N 2) (b2 : a2 < N 1) : ∀ r : Int32, p_Firm_fitFor σ a1 a2 = some r → Ct l yX3_fitFor cX3_fitFor 5 (some .int) ({ frames := 2, cells := 0, slots := 0, locals := 42 } : Room) LC ω ad N [.ref (ω.2.1 1), .ref (ad 2 a1), .ref (ad 1 a2)] σ (some (.int r)) σ (True) :=
  ct_of (o := fun r : Int32 => (some (.int r))) (s' := fun r => σ) (P := fun r => True) [some (.ref (ω.2.1 1)), some (.ref (ad 2 a1)), some (.ref (ad 1 a2)), none, none] (by decide) rfl (Nat.le_of_ble_eq_true rfl) (fun Γ C _ _ => w_p_Firm_fitFor (Γ, ω, 5, ad, N, 0, 0) σ a1 a2 b1 b2 C)
theorem ml_X3_138 : Cond.methodLink RX3 138 yX3_postAt ∈ wt := in_wt 1209 (by decide +kernel) (by decide +kernel)
/-- PostsEnd$Firm.int openPosts() -/
def p_Firm_openPosts (σ : St) : Option Int32 := (Option.bind (itr0 (S := Int32 × Int32) (E := Int32) (fun s1 => (if s1.2 < σ.1 0 1 2 then (Option.bind (p_Firm_postAt σ s1.2) fun r9 => (Option.bind (α := Int32) ((Option.elim r9 (some s1.1) fun q14 => (Option.bind (p_Post_isOpen σ q14) fun r16 => (if r16 = 0 then some s1.1 else some (s1.1 + (1 : Int32)))))) fun t11 => some (.inl (t11, s1.2 + (1 : Int32))))) else some (.inr s1.1))) FU ((0 : Int32), (0 : Int32))) fun e6 => some e6)
set_option maxRecDepth 20000 in
set_option maxHeartbeats 4000000 in
theorem w_p_Firm_openPosts (Θ : TT) (σ : St)  (C : CX Θ cX3_openPosts RX3 (some .int) ({ frames := 1, cells := 0, slots := 0, locals := 21 } : Room) 4) : WA LC Θ (fun r : Int32 => Qm LC Θ (some (.int r)) σ (True)) 0 [some (.ref (cF Θ 1)), none, none, none] [] σ (p_Firm_openPosts σ) := by
  unfold p_Firm_openPosts
  refine r_iconst C (0 : Int32) dX3_openPosts_0 (by decide) ?_
  refine r_istore_n C [some (.ref (cF Θ 1)), some (.int (0 : Int32)), none, none] dX3_openPosts_1 rfl (by decide) rfl ?_
  refine r_iconst C (0 : Int32) dX3_openPosts_2 (by decide) ?_
  refine r_istore_n C [some (.ref (cF Θ 1)), some (.int (0 : Int32)), some (.int (0 : Int32)), none] dX3_openPosts_3 rfl (by decide) rfl ?_
  refine WA.join (α := Int32) 38 (fun e6 => [none, some (.int e6), none, none]) (fun e6 => []) (fun e6 => σ) (fun e6 => True) (fun e6 h7 => ?_) (fun J8 => ?_)
  · refine r_iload_n C dX3_openPosts_38 rfl ?_
    exact r_iret C dX3_openPosts_39 rfl rfl trivial
  · refine WA.wk (lv' := [some (.ref (cF Θ 1)), some (.int (0 : Int32)), some (.int (0 : Int32)), none]) [true, true, true, false] rfl ?_
    refine WA.itr (S := Int32 × Int32) 4 (fun s1 => [some (.ref (cF Θ 1)), some (.int s1.1), some (.int s1.2), none]) (fun s1 => []) (fun s1 => σ) (fun s1 => True) (fun s1 k5 h2 ih3 hx4 => ?_) FU ((0 : Int32), (0 : Int32)) trivial
    refine r_iload_n C dX3_openPosts_4 rfl ?_
    refine r_aload_n C dX3_openPosts_5 rfl ?_
    refine r_getI0 C dX3_openPosts_6 fg_X3_43 (by decide) ?_
    refine WA.bif ?_
    refine r_icmp_ge C 38 dX3_openPosts_9 (by decide) ?_ ?_
    · refine WA.wk (lv' := [none, some (.int s1.1), none, none]) [false, true, false, false] rfl ?_
      exact WA.eqK (hx4 _) (J8 s1.1 trivial)
    · refine r_aload_n C dX3_openPosts_12 rfl ?_
      refine r_iload_n C dX3_openPosts_13 rfl ?_
      refine WA.asc ?_
      refine r_callV C (st := []) (As := [.int s1.2]) (d := 0) (j := 1) dX3_openPosts_14 ml_X3_138 vw_X3_postAt ⟨_, _, _, _, rfl, rfl⟩ (dm0 (by decide)) (fun r9 e => c_p_Firm_postAt Θ.1.2.1 (cW Θ) (cAd Θ) (cN Θ) σ s1.2 r9 e) rfl rfl (Nat.le_of_ble_eq_true rfl) ⟨rfl, rfl, by decide, by decide⟩ (fun r9 h10 => ?_)
      refine r_astore_n C (x := Option.map (cAd Θ 1) r9) [some (.ref (cF Θ 1)), some (.int s1.1), some (.int s1.2), some (va_rf (Option.map (cAd Θ 1) r9))] dX3_openPosts_17 rfl (by decide) rfl ?_
      refine r_aload_nQ C (x := Option.map (cAd Θ 1) r9) dX3_openPosts_18 rfl ?_
      refine WA.asc ?_
      refine WA.join (α := Int32) 32 (fun t11 => [some (.ref (cF Θ 1)), some (.int t11), some (.int s1.2), none]) (fun t11 => []) (fun t11 => σ) (fun t11 => True) (fun t11 h12 => ?_) (fun J13 => ?_)
      · refine r_iinc C (1 : Int32) [some (.ref (cF Θ 1)), some (.int t11), some (.int (s1.2 + (1 : Int32))), none] dX3_openPosts_32 (by decide) rfl rfl (by decide) rfl ?_
        refine r_goto C 4 dX3_openPosts_35 (by decide) ?_
        refine WA.wk (lv' := [some (.ref (cF Θ 1)), some (.int t11), some (.int (s1.2 + (1 : Int32))), none]) [true, true, true, false] rfl ?_
        exact ih3 (t11, s1.2 + (1 : Int32)) trivial
      · refine WA.bel ?_
        rcases r9 with _ | q14
        · refine r_ifnullN C 32 dX3_openPosts_19 (by decide) ?_
          refine WA.wk (lv' := [some (.ref (cF Θ 1)), some (.int s1.1), some (.int s1.2), none]) [true, true, true, false] rfl ?_
          exact J13 s1.1 trivial
        · have h15 := h10 q14 rfl
          refine r_ifnullS C dX3_openPosts_19 ?_
          refine r_aload_n C dX3_openPosts_22 rfl ?_
          refine WA.asc ?_
          refine r_callV C (st := []) (As := []) (d := 1) (j := q14) dX3_openPosts_23 ml_X3_70 vw_X7_isOpen ⟨_, _, _, _, rfl, rfl⟩ (dmk (by decide) (by decide) h15) (fun r16 e => c_p_Post_isOpen Θ.1.2.1 (cW Θ) (cAd Θ) (cN Θ) σ q14 h15 r16 e) rfl rfl (Nat.le_of_ble_eq_true rfl) ⟨rfl, rfl, by decide, by decide⟩ (fun r16 h17 => ?_)
          refine WA.bif ?_
          refine r_if_eq C 32 dX3_openPosts_26 (by decide) ?_ ?_
          · refine WA.wk (lv' := [some (.ref (cF Θ 1)), some (.int s1.1), some (.int s1.2), none]) [true, true, true, false] rfl ?_
            exact J13 s1.1 trivial
          · refine r_iinc C (1 : Int32) [some (.ref (cF Θ 1)), some (.int (s1.1 + (1 : Int32))), some (.int s1.2), some (.ref (cAd Θ 1 q14))] dX3_openPosts_29 (by decide) rfl rfl (by decide) rfl ?_
            refine WA.wk (lv' := [some (.ref (cF Θ 1)), some (.int (s1.1 + (1 : Int32))), some (.int s1.2), none]) [true, true, true, false] rfl ?_
            exact J13 (s1.1 + (1 : Int32)) trivial
theorem c_p_Firm_openPosts (l : Launch) (ω : Wd) (ad : Nat → Nat → Nat) (N : Nat → Nat) (σ : St)  : ∀ r : Int32, p_Firm_openPosts σ = some r → Ct l yX3_openPosts cX3_openPosts 4 (some .int) ({ frames := 1, cells := 0, slots := 0, locals := 21 } : Room) LC ω ad N [.ref (ω.2.1 1)] σ (some (.int r)) σ (True) :=
  ct_of (o := fun r : Int32 => (some (.int r))) (s' := fun r => σ) (P := fun r => True) [some (.ref (ω.2.1 1)), none, none, none] (by decide) rfl (Nat.le_of_ble_eq_true rfl) (fun Γ C _ _ => w_p_Firm_openPosts (Γ, ω, 4, ad, N, 0, 0) σ  C)
theorem fg_X7_35 (j : Nat) : FG LC RX7 35 1 j 7 (3, 0) := ⟨_, _, _, _, _, rfl, rfl, rfl, by decide, uw_X7, (in_wt 459 (by decide +kernel) (by decide +kernel))⟩
theorem ml_X7_31 : Cond.methodLink RX7 31 yX7_isOpen ∈ wt := in_wt 518 (by decide +kernel) (by decide +kernel)
/-- PostsEnd$Post.boolean isVacant() -/
def p_Post_isVacant (σ : St) (a0 : Nat) : Option Int32 := (Option.bind (p_Post_isOpen σ a0) fun r1 => (if r1 = 0 then some (0 : Int32) else (lt1 (σ.2 1 a0 7) fun x3 => (Option.elim x3 (some (1 : Int32)) fun q5 => some (0 : Int32)))))
set_option maxRecDepth 20000 in
set_option maxHeartbeats 4000000 in
theorem w_p_Post_isVacant (Θ : TT) (σ : St) (a0 : Nat) (b0 : a0 < cN Θ 1) (C : CX Θ cX7_isVacant RX7 (some .boolean) ({ frames := 1, cells := 0, slots := 0, locals := 20 } : Room) 1) : WA LC Θ (fun r : Int32 => Qm LC Θ (some (.int r)) σ (narrow .boolean (.int r) = .int r)) 0 [some (.ref (cAd Θ 1 a0))] [] σ (p_Post_isVacant σ a0) := by
  unfold p_Post_isVacant
  refine r_aload_n C dX7_isVacant_0 rfl ?_
  refine r_callV C (st := []) (As := []) (d := 1) (j := a0) dX7_isVacant_1 ml_X7_31 vw_X7_isOpen ⟨_, _, _, _, rfl, rfl⟩ (dmk (by decide) (by decide) b0) (fun r1 e => c_p_Post_isOpen Θ.1.2.1 (cW Θ) (cAd Θ) (cN Θ) σ a0 b0 r1 e) rfl rfl (Nat.le_of_ble_eq_true rfl) ⟨rfl, rfl, by decide, by decide⟩ (fun r1 h2 => ?_)
  refine r_if_eq C 18 dX7_isVacant_4 (by decide) ?_ ?_
  · refine r_iconst C (0 : Int32) dX7_isVacant_18 (by decide) ?_
    exact r_zret C dX7_isVacant_19 (show narrow .boolean (.int (0 : Int32)) = .int (0 : Int32) from rfl) rfl rfl (show narrow .boolean (.int (0 : Int32)) = .int (0 : Int32) from rfl)
  · refine r_aload_n C dX7_isVacant_7 rfl ?_
    refine r_getQ C dX7_isVacant_8 (fg_X7_35 _) (by decide) b0 (fun x3 h4 => ?_)
    rcases x3 with _ | q5
    · refine r_ifnonnullN C dX7_isVacant_11 ?_
      refine r_iconst C (1 : Int32) dX7_isVacant_14 (by decide) ?_
      refine r_goto C 19 dX7_isVacant_15 (by decide) ?_
      exact r_zret C dX7_isVacant_19 (show narrow .boolean (.int (1 : Int32)) = .int (1 : Int32) from rfl) rfl rfl (show narrow .boolean (.int (1 : Int32)) = .int (1 : Int32) from rfl)
    · have h6 := h4 q5 rfl
      refine r_ifnonnullS C 18 dX7_isVacant_11 (by decide) ?_
      refine r_iconst C (0 : Int32) dX7_isVacant_18 (by decide) ?_
      exact r_zret C dX7_isVacant_19 (show narrow .boolean (.int (0 : Int32)) = .int (0 : Int32) from rfl) rfl rfl (show narrow .boolean (.int (0 : Int32)) = .int (0 : Int32) from rfl)
theorem c_p_Post_isVacant (l : Launch) (ω : Wd) (ad : Nat → Nat → Nat) (N : Nat → Nat) (σ : St) (a0 : Nat) (b0 : a0 < N 1) : ∀ r : Int32, p_Post_isVacant σ a0 = some r → Ct l yX7_isVacant cX7_isVacant 1 (some .boolean) ({ frames := 1, cells := 0, slots := 0, locals := 20 } : Room) LC ω ad N [.ref (ad 1 a0)] σ (some (.int r)) σ (narrow .boolean (.int r) = .int r) :=
  ct_of (o := fun r : Int32 => (some (.int r))) (s' := fun r => σ) (P := fun r => narrow .boolean (.int r) = .int r) [some (.ref (ad 1 a0))] (by decide) rfl (Nat.le_of_ble_eq_true rfl) (fun Γ C _ _ => w_p_Post_isVacant (Γ, ω, 1, ad, N, 0, 0) σ a0 b0 C)
theorem vw_X7_isVacant : VW yX7_isVacant cX7_isVacant 1 (some .boolean) 0 := ⟨⟨(in_wt 89 (by decide +kernel) (by decide +kernel)), (in_wt 517 (by decide +kernel) (by decide +kernel)), by decide +kernel⟩, (in_wt 515 (by decide +kernel) (by decide +kernel)), (in_wt 516 (by decide +kernel) (by decide +kernel))⟩
theorem ml_X3_142 : Cond.methodLink RX3 142 yX7_isVacant ∈ wt := in_wt 1214 (by decide +kernel) (by decide +kernel)
/-- PostsEnd$Firm.int vacantPosts() -/
def p_Firm_vacantPosts (σ : St) : Option Int32 := (Option.bind (itr0 (S := Int32 × Int32) (E := Int32) (fun s1 => (if s1.2 < σ.1 0 1 2 then (Option.bind (p_Firm_postAt σ s1.2) fun r9 => (Option.bind (α := Int32) ((Option.elim r9 (some s1.1) fun q14 => (Option.bind (p_Post_isVacant σ q14) fun r16 => (if r16 = 0 then some s1.1 else some (s1.1 + (1 : Int32)))))) fun t11 => some (.inl (t11, s1.2 + (1 : Int32))))) else some (.inr s1.1))) FU ((0 : Int32), (0 : Int32))) fun e6 => some e6)
set_option maxRecDepth 20000 in
set_option maxHeartbeats 4000000 in
theorem w_p_Firm_vacantPosts (Θ : TT) (σ : St)  (C : CX Θ cX3_vacantPosts RX3 (some .int) ({ frames := 2, cells := 0, slots := 0, locals := 40 } : Room) 4) : WA LC Θ (fun r : Int32 => Qm LC Θ (some (.int r)) σ (True)) 0 [some (.ref (cF Θ 1)), none, none, none] [] σ (p_Firm_vacantPosts σ) := by
  unfold p_Firm_vacantPosts
  refine r_iconst C (0 : Int32) dX3_vacantPosts_0 (by decide) ?_
  refine r_istore_n C [some (.ref (cF Θ 1)), some (.int (0 : Int32)), none, none] dX3_vacantPosts_1 rfl (by decide) rfl ?_
  refine r_iconst C (0 : Int32) dX3_vacantPosts_2 (by decide) ?_
  refine r_istore_n C [some (.ref (cF Θ 1)), some (.int (0 : Int32)), some (.int (0 : Int32)), none] dX3_vacantPosts_3 rfl (by decide) rfl ?_
  refine WA.join (α := Int32) 38 (fun e6 => [none, some (.int e6), none, none]) (fun e6 => []) (fun e6 => σ) (fun e6 => True) (fun e6 h7 => ?_) (fun J8 => ?_)
  · refine r_iload_n C dX3_vacantPosts_38 rfl ?_
    exact r_iret C dX3_vacantPosts_39 rfl rfl trivial
  · refine WA.wk (lv' := [some (.ref (cF Θ 1)), some (.int (0 : Int32)), some (.int (0 : Int32)), none]) [true, true, true, false] rfl ?_
    refine WA.itr (S := Int32 × Int32) 4 (fun s1 => [some (.ref (cF Θ 1)), some (.int s1.1), some (.int s1.2), none]) (fun s1 => []) (fun s1 => σ) (fun s1 => True) (fun s1 k5 h2 ih3 hx4 => ?_) FU ((0 : Int32), (0 : Int32)) trivial
    refine r_iload_n C dX3_vacantPosts_4 rfl ?_
    refine r_aload_n C dX3_vacantPosts_5 rfl ?_
    refine r_getI0 C dX3_vacantPosts_6 fg_X3_43 (by decide) ?_
    refine WA.bif ?_
    refine r_icmp_ge C 38 dX3_vacantPosts_9 (by decide) ?_ ?_
    · refine WA.wk (lv' := [none, some (.int s1.1), none, none]) [false, true, false, false] rfl ?_
      exact WA.eqK (hx4 _) (J8 s1.1 trivial)
    · refine r_aload_n C dX3_vacantPosts_12 rfl ?_
      refine r_iload_n C dX3_vacantPosts_13 rfl ?_
      refine WA.asc ?_
      refine r_callV C (st := []) (As := [.int s1.2]) (d := 0) (j := 1) dX3_vacantPosts_14 ml_X3_138 vw_X3_postAt ⟨_, _, _, _, rfl, rfl⟩ (dm0 (by decide)) (fun r9 e => c_p_Firm_postAt Θ.1.2.1 (cW Θ) (cAd Θ) (cN Θ) σ s1.2 r9 e) rfl rfl (Nat.le_of_ble_eq_true rfl) ⟨rfl, rfl, by decide, by decide⟩ (fun r9 h10 => ?_)
      refine r_astore_n C (x := Option.map (cAd Θ 1) r9) [some (.ref (cF Θ 1)), some (.int s1.1), some (.int s1.2), some (va_rf (Option.map (cAd Θ 1) r9))] dX3_vacantPosts_17 rfl (by decide) rfl ?_
      refine r_aload_nQ C (x := Option.map (cAd Θ 1) r9) dX3_vacantPosts_18 rfl ?_
      refine WA.asc ?_
      refine WA.join (α := Int32) 32 (fun t11 => [some (.ref (cF Θ 1)), some (.int t11), some (.int s1.2), none]) (fun t11 => []) (fun t11 => σ) (fun t11 => True) (fun t11 h12 => ?_) (fun J13 => ?_)
      · refine r_iinc C (1 : Int32) [some (.ref (cF Θ 1)), some (.int t11), some (.int (s1.2 + (1 : Int32))), none] dX3_vacantPosts_32 (by decide) rfl rfl (by decide) rfl ?_
        refine r_goto C 4 dX3_vacantPosts_35 (by decide) ?_
        refine WA.wk (lv' := [some (.ref (cF Θ 1)), some (.int t11), some (.int (s1.2 + (1 : Int32))), none]) [true, true, true, false] rfl ?_
        exact ih3 (t11, s1.2 + (1 : Int32)) trivial
      · refine WA.bel ?_
        rcases r9 with _ | q14
        · refine r_ifnullN C 32 dX3_vacantPosts_19 (by decide) ?_
          refine WA.wk (lv' := [some (.ref (cF Θ 1)), some (.int s1.1), some (.int s1.2), none]) [true, true, true, false] rfl ?_
          exact J13 s1.1 trivial
        · have h15 := h10 q14 rfl
          refine r_ifnullS C dX3_vacantPosts_19 ?_
          refine r_aload_n C dX3_vacantPosts_22 rfl ?_
          refine WA.asc ?_
          refine r_callV C (st := []) (As := []) (d := 1) (j := q14) dX3_vacantPosts_23 ml_X3_142 vw_X7_isVacant ⟨_, _, _, _, rfl, rfl⟩ (dmk (by decide) (by decide) h15) (fun r16 e => c_p_Post_isVacant Θ.1.2.1 (cW Θ) (cAd Θ) (cN Θ) σ q14 h15 r16 e) rfl rfl (Nat.le_of_ble_eq_true rfl) ⟨rfl, rfl, by decide, by decide⟩ (fun r16 h17 => ?_)
          refine WA.bif ?_
          refine r_if_eq C 32 dX3_vacantPosts_26 (by decide) ?_ ?_
          · refine WA.wk (lv' := [some (.ref (cF Θ 1)), some (.int s1.1), some (.int s1.2), none]) [true, true, true, false] rfl ?_
            exact J13 s1.1 trivial
          · refine r_iinc C (1 : Int32) [some (.ref (cF Θ 1)), some (.int (s1.1 + (1 : Int32))), some (.int s1.2), some (.ref (cAd Θ 1 q14))] dX3_vacantPosts_29 (by decide) rfl rfl (by decide) rfl ?_
            refine WA.wk (lv' := [some (.ref (cF Θ 1)), some (.int (s1.1 + (1 : Int32))), some (.int s1.2), none]) [true, true, true, false] rfl ?_
            exact J13 (s1.1 + (1 : Int32)) trivial
theorem c_p_Firm_vacantPosts (l : Launch) (ω : Wd) (ad : Nat → Nat → Nat) (N : Nat → Nat) (σ : St)  : ∀ r : Int32, p_Firm_vacantPosts σ = some r → Ct l yX3_vacantPosts cX3_vacantPosts 4 (some .int) ({ frames := 2, cells := 0, slots := 0, locals := 40 } : Room) LC ω ad N [.ref (ω.2.1 1)] σ (some (.int r)) σ (True) :=
  ct_of (o := fun r : Int32 => (some (.int r))) (s' := fun r => σ) (P := fun r => True) [some (.ref (ω.2.1 1)), none, none, none] (by decide) rfl (Nat.le_of_ble_eq_true rfl) (fun Γ C _ _ => w_p_Firm_vacantPosts (Γ, ω, 4, ad, N, 0, 0) σ  C)
theorem fg_X5_9 (j : Nat) : FG LC RX5 9 2 j 6 (0, 0) := ⟨_, _, _, _, _, rfl, rfl, rfl, by decide, uw_X5, (in_wt 544 (by decide +kernel) (by decide +kernel))⟩
/-- PostsEnd$Person.boolean isHere() -/
def p_Person_isHere (σ : St) (a0 : Nat) : Option Int32 := (if σ.1 2 a0 6 < 0 then some (1 : Int32) else some (0 : Int32))
set_option maxRecDepth 20000 in
set_option maxHeartbeats 4000000 in
theorem w_p_Person_isHere (Θ : TT) (σ : St) (a0 : Nat) (b0 : a0 < cN Θ 2) (C : CX Θ cX5_isHere RX5 (some .boolean) ({ frames := 0, cells := 0, slots := 0, locals := 0 } : Room) 1) : WA LC Θ (fun r : Int32 => Qm LC Θ (some (.int r)) σ (narrow .boolean (.int r) = .int r)) 0 [some (.ref (cAd Θ 2 a0))] [] σ (p_Person_isHere σ a0) := by
  unfold p_Person_isHere
  refine r_aload_n C dX5_isHere_0 rfl ?_
  refine r_getI C dX5_isHere_1 (fg_X5_9 _) (by decide) b0 ?_
  refine r_if_ge C 11 dX5_isHere_4 (by decide) ?_ ?_
  · refine r_iconst C (0 : Int32) dX5_isHere_11 (by decide) ?_
    exact r_zret C dX5_isHere_12 (show narrow .boolean (.int (0 : Int32)) = .int (0 : Int32) from rfl) rfl rfl (show narrow .boolean (.int (0 : Int32)) = .int (0 : Int32) from rfl)
  · refine r_iconst C (1 : Int32) dX5_isHere_7 (by decide) ?_
    refine r_goto C 12 dX5_isHere_8 (by decide) ?_
    exact r_zret C dX5_isHere_12 (show narrow .boolean (.int (1 : Int32)) = .int (1 : Int32) from rfl) rfl rfl (show narrow .boolean (.int (1 : Int32)) = .int (1 : Int32) from rfl)
theorem c_p_Person_isHere (l : Launch) (ω : Wd) (ad : Nat → Nat → Nat) (N : Nat → Nat) (σ : St) (a0 : Nat) (b0 : a0 < N 2) : ∀ r : Int32, p_Person_isHere σ a0 = some r → Ct l yX5_isHere cX5_isHere 1 (some .boolean) ({ frames := 0, cells := 0, slots := 0, locals := 0 } : Room) LC ω ad N [.ref (ad 2 a0)] σ (some (.int r)) σ (narrow .boolean (.int r) = .int r) :=
  ct_of (o := fun r : Int32 => (some (.int r))) (s' := fun r => σ) (P := fun r => narrow .boolean (.int r) = .int r) [some (.ref (ad 2 a0))] (by decide) rfl (Nat.le_of_ble_eq_true rfl) (fun Γ C _ _ => w_p_Person_isHere (Γ, ω, 1, ad, N, 0, 0) σ a0 b0 C)
theorem vw_X5_isHere : VW yX5_isHere cX5_isHere 1 (some .boolean) 0 := ⟨⟨(in_wt 90 (by decide +kernel) (by decide +kernel)), (in_wt 603 (by decide +kernel) (by decide +kernel)), by decide +kernel⟩, (in_wt 601 (by decide +kernel) (by decide +kernel)), (in_wt 602 (by decide +kernel) (by decide +kernel))⟩
theorem ml_X3_145 : Cond.methodLink RX3 145 yX3_personAt ∈ wt := in_wt 1194 (by decide +kernel) (by decide +kernel)
theorem ml_X3_149 : Cond.methodLink RX3 149 yX5_isHere ∈ wt := in_wt 1199 (by decide +kernel) (by decide +kernel)
/-- PostsEnd$Firm.int peopleHere() -/
def p_Firm_peopleHere (σ : St) : Option Int32 := (Option.bind (itr0 (S := Int32 × Int32) (E := Int32) (fun s1 => (if s1.2 < σ.1 0 1 3 then (Option.bind (p_Firm_personAt σ s1.2) fun r9 => (Option.bind (α := Int32) ((Option.elim r9 (some s1.1) fun q14 => (Option.bind (p_Person_isHere σ q14) fun r16 => (if r16 = 0 then some s1.1 else some (s1.1 + (1 : Int32)))))) fun t11 => some (.inl (t11, s1.2 + (1 : Int32))))) else some (.inr s1.1))) FU ((0 : Int32), (0 : Int32))) fun e6 => some e6)
set_option maxRecDepth 20000 in
set_option maxHeartbeats 4000000 in
theorem w_p_Firm_peopleHere (Θ : TT) (σ : St)  (C : CX Θ cX3_peopleHere RX3 (some .int) ({ frames := 1, cells := 0, slots := 0, locals := 21 } : Room) 4) : WA LC Θ (fun r : Int32 => Qm LC Θ (some (.int r)) σ (True)) 0 [some (.ref (cF Θ 1)), none, none, none] [] σ (p_Firm_peopleHere σ) := by
  unfold p_Firm_peopleHere
  refine r_iconst C (0 : Int32) dX3_peopleHere_0 (by decide) ?_
  refine r_istore_n C [some (.ref (cF Θ 1)), some (.int (0 : Int32)), none, none] dX3_peopleHere_1 rfl (by decide) rfl ?_
  refine r_iconst C (0 : Int32) dX3_peopleHere_2 (by decide) ?_
  refine r_istore_n C [some (.ref (cF Θ 1)), some (.int (0 : Int32)), some (.int (0 : Int32)), none] dX3_peopleHere_3 rfl (by decide) rfl ?_
  refine WA.join (α := Int32) 38 (fun e6 => [none, some (.int e6), none, none]) (fun e6 => []) (fun e6 => σ) (fun e6 => True) (fun e6 h7 => ?_) (fun J8 => ?_)
  · refine r_iload_n C dX3_peopleHere_38 rfl ?_
    exact r_iret C dX3_peopleHere_39 rfl rfl trivial
  · refine WA.wk (lv' := [some (.ref (cF Θ 1)), some (.int (0 : Int32)), some (.int (0 : Int32)), none]) [true, true, true, false] rfl ?_
    refine WA.itr (S := Int32 × Int32) 4 (fun s1 => [some (.ref (cF Θ 1)), some (.int s1.1), some (.int s1.2), none]) (fun s1 => []) (fun s1 => σ) (fun s1 => True) (fun s1 k5 h2 ih3 hx4 => ?_) FU ((0 : Int32), (0 : Int32)) trivial
    refine r_iload_n C dX3_peopleHere_4 rfl ?_
    refine r_aload_n C dX3_peopleHere_5 rfl ?_
    refine r_getI0 C dX3_peopleHere_6 fg_X3_46 (by decide) ?_
    refine WA.bif ?_
    refine r_icmp_ge C 38 dX3_peopleHere_9 (by decide) ?_ ?_
    · refine WA.wk (lv' := [none, some (.int s1.1), none, none]) [false, true, false, false] rfl ?_
      exact WA.eqK (hx4 _) (J8 s1.1 trivial)
    · refine r_aload_n C dX3_peopleHere_12 rfl ?_
      refine r_iload_n C dX3_peopleHere_13 rfl ?_
      refine WA.asc ?_
      refine r_callV C (st := []) (As := [.int s1.2]) (d := 0) (j := 1) dX3_peopleHere_14 ml_X3_145 vw_X3_personAt ⟨_, _, _, _, rfl, rfl⟩ (dm0 (by decide)) (fun r9 e => c_p_Firm_personAt Θ.1.2.1 (cW Θ) (cAd Θ) (cN Θ) σ s1.2 r9 e) rfl rfl (Nat.le_of_ble_eq_true rfl) ⟨rfl, rfl, by decide, by decide⟩ (fun r9 h10 => ?_)
      refine r_astore_n C (x := Option.map (cAd Θ 2) r9) [some (.ref (cF Θ 1)), some (.int s1.1), some (.int s1.2), some (va_rf (Option.map (cAd Θ 2) r9))] dX3_peopleHere_17 rfl (by decide) rfl ?_
      refine r_aload_nQ C (x := Option.map (cAd Θ 2) r9) dX3_peopleHere_18 rfl ?_
      refine WA.asc ?_
      refine WA.join (α := Int32) 32 (fun t11 => [some (.ref (cF Θ 1)), some (.int t11), some (.int s1.2), none]) (fun t11 => []) (fun t11 => σ) (fun t11 => True) (fun t11 h12 => ?_) (fun J13 => ?_)
      · refine r_iinc C (1 : Int32) [some (.ref (cF Θ 1)), some (.int t11), some (.int (s1.2 + (1 : Int32))), none] dX3_peopleHere_32 (by decide) rfl rfl (by decide) rfl ?_
        refine r_goto C 4 dX3_peopleHere_35 (by decide) ?_
        refine WA.wk (lv' := [some (.ref (cF Θ 1)), some (.int t11), some (.int (s1.2 + (1 : Int32))), none]) [true, true, true, false] rfl ?_
        exact ih3 (t11, s1.2 + (1 : Int32)) trivial
      · refine WA.bel ?_
        rcases r9 with _ | q14
        · refine r_ifnullN C 32 dX3_peopleHere_19 (by decide) ?_
          refine WA.wk (lv' := [some (.ref (cF Θ 1)), some (.int s1.1), some (.int s1.2), none]) [true, true, true, false] rfl ?_
          exact J13 s1.1 trivial
        · have h15 := h10 q14 rfl
          refine r_ifnullS C dX3_peopleHere_19 ?_
          refine r_aload_n C dX3_peopleHere_22 rfl ?_
          refine WA.asc ?_
          refine r_callV C (st := []) (As := []) (d := 2) (j := q14) dX3_peopleHere_23 ml_X3_149 vw_X5_isHere ⟨_, _, _, _, rfl, rfl⟩ (dmk (by decide) (by decide) h15) (fun r16 e => c_p_Person_isHere Θ.1.2.1 (cW Θ) (cAd Θ) (cN Θ) σ q14 h15 r16 e) rfl rfl (Nat.le_of_ble_eq_true rfl) ⟨rfl, rfl, by decide, by decide⟩ (fun r16 h17 => ?_)
          refine WA.bif ?_
          refine r_if_eq C 32 dX3_peopleHere_26 (by decide) ?_ ?_
          · refine WA.wk (lv' := [some (.ref (cF Θ 1)), some (.int s1.1), some (.int s1.2), none]) [true, true, true, false] rfl ?_
            exact J13 s1.1 trivial
          · refine r_iinc C (1 : Int32) [some (.ref (cF Θ 1)), some (.int (s1.1 + (1 : Int32))), some (.int s1.2), some (.ref (cAd Θ 2 q14))] dX3_peopleHere_29 (by decide) rfl rfl (by decide) rfl ?_
            refine WA.wk (lv' := [some (.ref (cF Θ 1)), some (.int (s1.1 + (1 : Int32))), some (.int s1.2), none]) [true, true, true, false] rfl ?_
            exact J13 (s1.1 + (1 : Int32)) trivial
theorem c_p_Firm_peopleHere (l : Launch) (ω : Wd) (ad : Nat → Nat → Nat) (N : Nat → Nat) (σ : St)  : ∀ r : Int32, p_Firm_peopleHere σ = some r → Ct l yX3_peopleHere cX3_peopleHere 4 (some .int) ({ frames := 1, cells := 0, slots := 0, locals := 21 } : Room) LC ω ad N [.ref (ω.2.1 1)] σ (some (.int r)) σ (True) :=
  ct_of (o := fun r : Int32 => (some (.int r))) (s' := fun r => σ) (P := fun r => True) [some (.ref (ω.2.1 1)), none, none, none] (by decide) rfl (Nat.le_of_ble_eq_true rfl) (fun Γ C _ _ => w_p_Firm_peopleHere (Γ, ω, 4, ad, N, 0, 0) σ  C)
theorem ml_X3_152 : Cond.methodLink RX3 152 yX5_isVolunteer ∈ wt := in_wt 1223 (by decide +kernel) (by decide +kernel)
/-- PostsEnd$Firm.int volunteersHere() -/
def p_Firm_volunteersHere (σ : St) : Option Int32 := (Option.bind (itr0 (S := Int32 × Int32) (E := Int32) (fun s1 => (if s1.2 < σ.1 0 1 3 then (Option.bind (p_Firm_personAt σ s1.2) fun r9 => (Option.bind (α := Int32) ((Option.elim r9 (some s1.1) fun q14 => (Option.bind (p_Person_isHere σ q14) fun r16 => (if r16 = 0 then some s1.1 else (Option.bind (p_Person_isVolunteer σ q14) fun r18 => (if r18 = 0 then some s1.1 else some (s1.1 + (1 : Int32)))))))) fun t11 => some (.inl (t11, s1.2 + (1 : Int32))))) else some (.inr s1.1))) FU ((0 : Int32), (0 : Int32))) fun e6 => some e6)
set_option maxRecDepth 20000 in
set_option maxHeartbeats 4000000 in
theorem w_p_Firm_volunteersHere (Θ : TT) (σ : St)  (C : CX Θ cX3_volunteersHere RX3 (some .int) ({ frames := 1, cells := 0, slots := 0, locals := 21 } : Room) 4) : WA LC Θ (fun r : Int32 => Qm LC Θ (some (.int r)) σ (True)) 0 [some (.ref (cF Θ 1)), none, none, none] [] σ (p_Firm_volunteersHere σ) := by
  unfold p_Firm_volunteersHere
  refine r_iconst C (0 : Int32) dX3_volunteersHere_0 (by decide) ?_
  refine r_istore_n C [some (.ref (cF Θ 1)), some (.int (0 : Int32)), none, none] dX3_volunteersHere_1 rfl (by decide) rfl ?_
  refine r_iconst C (0 : Int32) dX3_volunteersHere_2 (by decide) ?_
  refine r_istore_n C [some (.ref (cF Θ 1)), some (.int (0 : Int32)), some (.int (0 : Int32)), none] dX3_volunteersHere_3 rfl (by decide) rfl ?_
  refine WA.join (α := Int32) 45 (fun e6 => [none, some (.int e6), none, none]) (fun e6 => []) (fun e6 => σ) (fun e6 => True) (fun e6 h7 => ?_) (fun J8 => ?_)
  · refine r_iload_n C dX3_volunteersHere_45 rfl ?_
    exact r_iret C dX3_volunteersHere_46 rfl rfl trivial
  · refine WA.wk (lv' := [some (.ref (cF Θ 1)), some (.int (0 : Int32)), some (.int (0 : Int32)), none]) [true, true, true, false] rfl ?_
    refine WA.itr (S := Int32 × Int32) 4 (fun s1 => [some (.ref (cF Θ 1)), some (.int s1.1), some (.int s1.2), none]) (fun s1 => []) (fun s1 => σ) (fun s1 => True) (fun s1 k5 h2 ih3 hx4 => ?_) FU ((0 : Int32), (0 : Int32)) trivial
    refine r_iload_n C dX3_volunteersHere_4 rfl ?_
    refine r_aload_n C dX3_volunteersHere_5 rfl ?_
    refine r_getI0 C dX3_volunteersHere_6 fg_X3_46 (by decide) ?_
    refine WA.bif ?_
    refine r_icmp_ge C 45 dX3_volunteersHere_9 (by decide) ?_ ?_
    · refine WA.wk (lv' := [none, some (.int s1.1), none, none]) [false, true, false, false] rfl ?_
      exact WA.eqK (hx4 _) (J8 s1.1 trivial)
    · refine r_aload_n C dX3_volunteersHere_12 rfl ?_
      refine r_iload_n C dX3_volunteersHere_13 rfl ?_
      refine WA.asc ?_
      refine r_callV C (st := []) (As := [.int s1.2]) (d := 0) (j := 1) dX3_volunteersHere_14 ml_X3_145 vw_X3_personAt ⟨_, _, _, _, rfl, rfl⟩ (dm0 (by decide)) (fun r9 e => c_p_Firm_personAt Θ.1.2.1 (cW Θ) (cAd Θ) (cN Θ) σ s1.2 r9 e) rfl rfl (Nat.le_of_ble_eq_true rfl) ⟨rfl, rfl, by decide, by decide⟩ (fun r9 h10 => ?_)
      refine r_astore_n C (x := Option.map (cAd Θ 2) r9) [some (.ref (cF Θ 1)), some (.int s1.1), some (.int s1.2), some (va_rf (Option.map (cAd Θ 2) r9))] dX3_volunteersHere_17 rfl (by decide) rfl ?_
      refine r_aload_nQ C (x := Option.map (cAd Θ 2) r9) dX3_volunteersHere_18 rfl ?_
      refine WA.asc ?_
      refine WA.join (α := Int32) 39 (fun t11 => [some (.ref (cF Θ 1)), some (.int t11), some (.int s1.2), none]) (fun t11 => []) (fun t11 => σ) (fun t11 => True) (fun t11 h12 => ?_) (fun J13 => ?_)
      · refine r_iinc C (1 : Int32) [some (.ref (cF Θ 1)), some (.int t11), some (.int (s1.2 + (1 : Int32))), none] dX3_volunteersHere_39 (by decide) rfl rfl (by decide) rfl ?_
        refine r_goto C 4 dX3_volunteersHere_42 (by decide) ?_
        refine WA.wk (lv' := [some (.ref (cF Θ 1)), some (.int t11), some (.int (s1.2 + (1 : Int32))), none]) [true, true, true, false] rfl ?_
        exact ih3 (t11, s1.2 + (1 : Int32)) trivial
      · refine WA.bel ?_
        rcases r9 with _ | q14
        · refine r_ifnullN C 39 dX3_volunteersHere_19 (by decide) ?_
          refine WA.wk (lv' := [some (.ref (cF Θ 1)), some (.int s1.1), some (.int s1.2), none]) [true, true, true, false] rfl ?_
          exact J13 s1.1 trivial
        · have h15 := h10 q14 rfl
          refine r_ifnullS C dX3_volunteersHere_19 ?_
          refine r_aload_n C dX3_volunteersHere_22 rfl ?_
          refine WA.asc ?_
          refine r_callV C (st := []) (As := []) (d := 2) (j := q14) dX3_volunteersHere_23 ml_X3_149 vw_X5_isHere ⟨_, _, _, _, rfl, rfl⟩ (dmk (by decide) (by decide) h15) (fun r16 e => c_p_Person_isHere Θ.1.2.1 (cW Θ) (cAd Θ) (cN Θ) σ q14 h15 r16 e) rfl rfl (Nat.le_of_ble_eq_true rfl) ⟨rfl, rfl, by decide, by decide⟩ (fun r16 h17 => ?_)
          refine WA.bif ?_
          refine r_if_eq C 39 dX3_volunteersHere_26 (by decide) ?_ ?_
          · refine WA.wk (lv' := [some (.ref (cF Θ 1)), some (.int s1.1), some (.int s1.2), none]) [true, true, true, false] rfl ?_
            exact J13 s1.1 trivial
          · refine r_aload_n C dX3_volunteersHere_29 rfl ?_
            refine WA.asc ?_
            refine r_callV C (st := []) (As := []) (d := 2) (j := q14) dX3_volunteersHere_30 ml_X3_152 vw_X5_isVolunteer ⟨_, _, _, _, rfl, rfl⟩ (dmk (by decide) (by decide) h15) (fun r18 e => c_p_Person_isVolunteer Θ.1.2.1 (cW Θ) (cAd Θ) (cN Θ) σ q14 h15 r18 e) rfl rfl (Nat.le_of_ble_eq_true rfl) ⟨rfl, rfl, by decide, by decide⟩ (fun r18 h19 => ?_)
            refine WA.bif ?_
            refine r_if_eq C 39 dX3_volunteersHere_33 (by decide) ?_ ?_
            · refine WA.wk (lv' := [some (.ref (cF Θ 1)), some (.int s1.1), some (.int s1.2), none]) [true, true, true, false] rfl ?_
              exact J13 s1.1 trivial
            · refine r_iinc C (1 : Int32) [some (.ref (cF Θ 1)), some (.int (s1.1 + (1 : Int32))), some (.int s1.2), some (.ref (cAd Θ 2 q14))] dX3_volunteersHere_36 (by decide) rfl rfl (by decide) rfl ?_
              refine WA.wk (lv' := [some (.ref (cF Θ 1)), some (.int (s1.1 + (1 : Int32))), some (.int s1.2), none]) [true, true, true, false] rfl ?_
              exact J13 (s1.1 + (1 : Int32)) trivial
theorem c_p_Firm_volunteersHere (l : Launch) (ω : Wd) (ad : Nat → Nat → Nat) (N : Nat → Nat) (σ : St)  : ∀ r : Int32, p_Firm_volunteersHere σ = some r → Ct l yX3_volunteersHere cX3_volunteersHere 4 (some .int) ({ frames := 1, cells := 0, slots := 0, locals := 21 } : Room) LC ω ad N [.ref (ω.2.1 1)] σ (some (.int r)) σ (True) :=
  ct_of (o := fun r : Int32 => (some (.int r))) (s' := fun r => σ) (P := fun r => True) [some (.ref (ω.2.1 1)), none, none, none] (by decide) rfl (Nat.le_of_ble_eq_true rfl) (fun Γ C _ _ => w_p_Firm_volunteersHere (Γ, ω, 4, ad, N, 0, 0) σ  C)
theorem vw_X3_isAlike : VW yX3_isAlike cX3_isAlike 3 (some .boolean) 2 := ⟨⟨(in_wt 81 (by decide +kernel) (by decide +kernel)), (in_wt 780 (by decide +kernel) (by decide +kernel)), by decide +kernel⟩, (in_wt 778 (by decide +kernel) (by decide +kernel)), (in_wt 779 (by decide +kernel) (by decide +kernel))⟩
theorem fg_X3_159 (j : Nat) : FG LC RX3 159 2 j 6 (0, 0) := ⟨_, _, _, _, _, rfl, rfl, rfl, by decide, uw_X5, (in_wt 546 (by decide +kernel) (by decide +kernel))⟩
theorem fg_X3_162 (j : Nat) : FG LC RX3 162 2 j 5 (2, 0) := ⟨_, _, _, _, _, rfl, rfl, rfl, by decide, uw_X5, (in_wt 543 (by decide +kernel) (by decide +kernel))⟩
theorem fg_X3_165 (j : Nat) : FG LC RX3 165 1 j 6 (0, 0) := ⟨_, _, _, _, _, rfl, rfl, rfl, by decide, uw_X7, (in_wt 458 (by decide +kernel) (by decide +kernel))⟩
theorem ml_X3_168 : Cond.methodLink RX3 168 yX3_isAlike ∈ wt := in_wt 1200 (by decide +kernel) (by decide +kernel)
/-- PostsEnd$Firm.boolean mayReturn(PostsEnd$Person, PostsEnd$Post) -/
def p_Firm_mayReturn (σ : St) (a1 : Nat) (a2 : Nat) : Option Int32 := (lt1 (σ.2 2 a1 5) fun x1 => (Option.elim x1 (some (0 : Int32)) fun q3 => (Option.bind (p_Person_isHere σ a1) fun r5 => (if r5 = 0 then (Option.bind (p_Post_isOpen σ q3) fun r7 => (if r7 = 0 then (if (180 : Int32) < (σ.1 0 1 0) - (σ.1 1 q3 6) then some (0 : Int32) else (if σ.1 2 a1 6 < σ.1 1 q3 6 then some (0 : Int32) else (Option.bind (p_Firm_isAlike σ q3 a2) fun r9 => (if r9 = 0 then some (0 : Int32) else some (1 : Int32))))) else some (0 : Int32))) else some (0 : Int32)))))
set_option maxRecDepth 20000 in
set_option maxHeartbeats 4000000 in
theorem w_p_Firm_mayReturn (Θ : TT) (σ : St) (a1 : Nat) (a2 : Nat) (b1 : a1 < cN Θ 2) (b2 : a2 < cN Θ 1) (C : CX Θ cX3_mayReturn RX3 (some .boolean) ({ frames := 2, cells := 0, slots := 0, locals := 43 } : Room) 4) : WA LC Θ (fun r : Int32 => Qm LC Θ (some (.int r)) σ (narrow .boolean (.int r) = .int r)) 0 [some (.ref (cF Θ 1)), some (.ref (cAd Θ 2 a1)), some (.ref (cAd Θ 1 a2)), none] [] σ (p_Firm_mayReturn σ a1 a2) := by
  unfold p_Firm_mayReturn
  refine r_aload_n C dX3_mayReturn_0 rfl ?_
  refine r_getQ C dX3_mayReturn_1 (fg_X3_162 _) (by decide) b1 (fun x1 h2 => ?_)
  refine r_astore_n C (x := Option.map (cAd Θ 1) x1) [some (.ref (cF Θ 1)), some (.ref (cAd Θ 2 a1)), some (.ref (cAd Θ 1 a2)), some (va_rf (Option.map (cAd Θ 1) x1))] dX3_mayReturn_4 rfl (by decide) rfl ?_
  refine r_aload_nQ C (x := Option.map (cAd Θ 1) x1) dX3_mayReturn_5 rfl ?_
  rcases x1 with _ | q3
  · refine r_ifnullN C 62 dX3_mayReturn_6 (by decide) ?_
    refine r_iconst C (0 : Int32) dX3_mayReturn_62 (by decide) ?_
    exact r_zret C dX3_mayReturn_63 (show narrow .boolean (.int (0 : Int32)) = .int (0 : Int32) from rfl) rfl rfl (show narrow .boolean (.int (0 : Int32)) = .int (0 : Int32) from rfl)
  · have h4 := h2 q3 rfl
    refine r_ifnullS C dX3_mayReturn_6 ?_
    refine r_aload_n C dX3_mayReturn_9 rfl ?_
    refine r_callV C (st := []) (As := []) (d := 2) (j := a1) dX3_mayReturn_10 ml_X3_149 vw_X5_isHere ⟨_, _, _, _, rfl, rfl⟩ (dmk (by decide) (by decide) b1) (fun r5 e => c_p_Person_isHere Θ.1.2.1 (cW Θ) (cAd Θ) (cN Θ) σ a1 b1 r5 e) rfl rfl (Nat.le_of_ble_eq_true rfl) ⟨rfl, rfl, by decide, by decide⟩ (fun r5 h6 => ?_)
    refine r_if_ne C 62 dX3_mayReturn_13 (by decide) ?_ ?_
    · refine r_iconst C (0 : Int32) dX3_mayReturn_62 (by decide) ?_
      exact r_zret C dX3_mayReturn_63 (show narrow .boolean (.int (0 : Int32)) = .int (0 : Int32) from rfl) rfl rfl (show narrow .boolean (.int (0 : Int32)) = .int (0 : Int32) from rfl)
    · refine r_aload_n C dX3_mayReturn_16 rfl ?_
      refine r_callV C (st := []) (As := []) (d := 1) (j := q3) dX3_mayReturn_17 ml_X3_70 vw_X7_isOpen ⟨_, _, _, _, rfl, rfl⟩ (dmk (by decide) (by decide) h4) (fun r7 e => c_p_Post_isOpen Θ.1.2.1 (cW Θ) (cAd Θ) (cN Θ) σ q3 h4 r7 e) rfl rfl (Nat.le_of_ble_eq_true rfl) ⟨rfl, rfl, by decide, by decide⟩ (fun r7 h8 => ?_)
      refine r_if_ne C 62 dX3_mayReturn_20 (by decide) ?_ ?_
      · refine r_iconst C (0 : Int32) dX3_mayReturn_62 (by decide) ?_
        exact r_zret C dX3_mayReturn_63 (show narrow .boolean (.int (0 : Int32)) = .int (0 : Int32) from rfl) rfl rfl (show narrow .boolean (.int (0 : Int32)) = .int (0 : Int32) from rfl)
      · refine r_aload_n C dX3_mayReturn_23 rfl ?_
        refine r_getI0 C dX3_mayReturn_24 fg_X3_56 (by decide) ?_
        refine r_aload_n C dX3_mayReturn_27 rfl ?_
        refine r_getI C dX3_mayReturn_28 (fg_X3_165 _) (by decide) h4 ?_
        refine r_isub C dX3_mayReturn_31 ?_
        refine r_sipush C (180 : Int32) dX3_mayReturn_32 (by decide) ?_
        refine r_icmp_gt C 62 dX3_mayReturn_35 (by decide) ?_ ?_
        · refine r_iconst C (0 : Int32) dX3_mayReturn_62 (by decide) ?_
          exact r_zret C dX3_mayReturn_63 (show narrow .boolean (.int (0 : Int32)) = .int (0 : Int32) from rfl) rfl rfl (show narrow .boolean (.int (0 : Int32)) = .int (0 : Int32) from rfl)
        · refine r_aload_n C dX3_mayReturn_38 rfl ?_
          refine r_getI C dX3_mayReturn_39 (fg_X3_159 _) (by decide) b1 ?_
          refine r_aload_n C dX3_mayReturn_42 rfl ?_
          refine r_getI C dX3_mayReturn_43 (fg_X3_165 _) (by decide) h4 ?_
          refine r_icmp_lt C 62 dX3_mayReturn_46 (by decide) ?_ ?_
          · refine r_iconst C (0 : Int32) dX3_mayReturn_62 (by decide) ?_
            exact r_zret C dX3_mayReturn_63 (show narrow .boolean (.int (0 : Int32)) = .int (0 : Int32) from rfl) rfl rfl (show narrow .boolean (.int (0 : Int32)) = .int (0 : Int32) from rfl)
          · refine r_aload_n C dX3_mayReturn_49 rfl ?_
            refine r_aload_n C dX3_mayReturn_50 rfl ?_
            refine r_aload_n C dX3_mayReturn_51 rfl ?_
            refine r_callV C (st := []) (As := [.ref (cAd Θ 1 q3), .ref (cAd Θ 1 a2)]) (d := 0) (j := 1) dX3_mayReturn_52 ml_X3_168 vw_X3_isAlike ⟨_, _, _, _, rfl, rfl⟩ (dm0 (by decide)) (fun r9 e => c_p_Firm_isAlike Θ.1.2.1 (cW Θ) (cAd Θ) (cN Θ) σ q3 a2 h4 b2 r9 e) rfl rfl (Nat.le_of_ble_eq_true rfl) ⟨rfl, rfl, by decide, by decide⟩ (fun r9 h10 => ?_)
            refine r_if_eq C 62 dX3_mayReturn_55 (by decide) ?_ ?_
            · refine r_iconst C (0 : Int32) dX3_mayReturn_62 (by decide) ?_
              exact r_zret C dX3_mayReturn_63 (show narrow .boolean (.int (0 : Int32)) = .int (0 : Int32) from rfl) rfl rfl (show narrow .boolean (.int (0 : Int32)) = .int (0 : Int32) from rfl)
            · refine r_iconst C (1 : Int32) dX3_mayReturn_58 (by decide) ?_
              refine r_goto C 63 dX3_mayReturn_59 (by decide) ?_
              exact r_zret C dX3_mayReturn_63 (show narrow .boolean (.int (1 : Int32)) = .int (1 : Int32) from rfl) rfl rfl (show narrow .boolean (.int (1 : Int32)) = .int (1 : Int32) from rfl)
theorem c_p_Firm_mayReturn (l : Launch) (ω : Wd) (ad : Nat → Nat → Nat) (N : Nat → Nat) (σ : St) (a1 : Nat) (a2 : Nat) (b1 : a1 < N 2) (b2 : a2 < N 1) : ∀ r : Int32, p_Firm_mayReturn σ a1 a2 = some r → Ct l yX3_mayReturn cX3_mayReturn 4 (some .boolean) ({ frames := 2, cells := 0, slots := 0, locals := 43 } : Room) LC ω ad N [.ref (ω.2.1 1), .ref (ad 2 a1), .ref (ad 1 a2)] σ (some (.int r)) σ (narrow .boolean (.int r) = .int r) :=
  ct_of (o := fun r : Int32 => (some (.int r))) (s' := fun r => σ) (P := fun r => narrow .boolean (.int r) = .int r) [some (.ref (ω.2.1 1)), some (.ref (ad 2 a1)), some (.ref (ad 1 a2)), none] (by decide) rfl (Nat.le_of_ble_eq_true rfl) (fun Γ C _ _ => w_p_Firm_mayReturn (Γ, ω, 4, ad, N, 0, 0) σ a1 a2 b1 b2 C)
theorem vw_X3_mayReturn : VW yX3_mayReturn cX3_mayReturn 4 (some .boolean) 2 := ⟨⟨(in_wt 81 (by decide +kernel) (by decide +kernel)), (in_wt 1198 (by decide +kernel) (by decide +kernel)), by decide +kernel⟩, (in_wt 1196 (by decide +kernel) (by decide +kernel)), (in_wt 1197 (by decide +kernel) (by decide +kernel))⟩
theorem ml_X3_155 : Cond.methodLink RX3 155 yX3_mayReturn ∈ wt := in_wt 1195 (by decide +kernel) (by decide +kernel)
/-- PostsEnd$Firm.PostsEnd$Person firstToReturn(PostsEnd$Post) -/
def p_Firm_firstToReturn (σ : St) (a1 : Nat) : Option (Option Nat) := (Option.bind (itr0 (S := (Option Nat) × Int32) (E := (Option Nat)) (fun s1 => (lt1 s1.1 fun x9 => (if s1.2 < σ.1 0 1 3 then (Option.bind (p_Firm_personAt σ s1.2) fun r10 => (Option.bind (α := (Option Nat)) ((Option.elim r10 (some x9) fun q15 => (Option.bind (p_Firm_mayReturn σ q15 a1) fun r17 => (if r17 = 0 then some x9 else (Option.elim x9 (some (some q15)) fun q19 => (if σ.1 2 q15 6 < σ.1 2 q19 6 then some (some q15) else some (some q19))))))) fun t12 => some (.inl (t12, s1.2 + (1 : Int32))))) else some (.inr x9)))) FU (none, (0 : Int32))) fun e6 => some e6)
set_option maxRecDepth 20000 in
set_option maxHeartbeats 4000000 in
theorem w_p_Firm_firstToReturn (Θ : TT) (σ : St) (a1 : Nat) (b1 : a1 < cN Θ 1) (C : CX Θ cX3_firstToReturn RX3 (some (.object "PostsEnd$Person")) ({ frames := 3, cells := 0, slots := 0, locals := 66 } : Room) 5) : WA LC Θ (fun r : Option Nat => Qm LC Θ (some (va_rf (Option.map (cAd Θ 2) r))) σ (∀ q, r = some q → q < cN Θ 2)) 0 [some (.ref (cF Θ 1)), some (.ref (cAd Θ 1 a1)), none, none, none] [] σ (p_Firm_firstToReturn σ a1) := by
  unfold p_Firm_firstToReturn
  refine r_null C dX3_firstToReturn_0 ?_
  refine r_astore_n C (x := none) [some (.ref (cF Θ 1)), some (.ref (cAd Θ 1 a1)), some (.null), none, none] dX3_firstToReturn_1 rfl (by decide) rfl ?_
  refine r_iconst C (0 : Int32) dX3_firstToReturn_2 (by decide) ?_
  refine r_istore_n C [some (.ref (cF Θ 1)), some (.ref (cAd Θ 1 a1)), some (.null), some (.int (0 : Int32)), none] dX3_firstToReturn_3 rfl (by decide) rfl ?_
  refine WA.join (α := (Option Nat)) 59 (fun e6 => [none, none, some (va_rf (Option.map (cAd Θ 2) e6)), none, none]) (fun e6 => []) (fun e6 => σ) (fun e6 => (∀ q, e6 = some q → q < cN Θ 2)) (fun e6 h7 => ?_) (fun J8 => ?_)
  · refine r_aload_nQ C (x := Option.map (cAd Θ 2) e6) dX3_firstToReturn_59 rfl ?_
    exact r_aret C (x := Option.map (cAd Θ 2) e6) dX3_firstToReturn_60 rfl rfl h7
  · refine WA.wk (lv' := [some (.ref (cF Θ 1)), some (.ref (cAd Θ 1 a1)), some (va_rf (Option.map (cAd Θ 2) none)), some (.int (0 : Int32)), none]) [true, true, true, true, false] rfl ?_
    refine WA.itr (S := (Option Nat) × Int32) 4 (fun s1 => [some (.ref (cF Θ 1)), some (.ref (cAd Θ 1 a1)), some (va_rf (Option.map (cAd Θ 2) s1.1)), some (.int s1.2), none]) (fun s1 => []) (fun s1 => σ) (fun s1 => (∀ q, s1.1 = some q → q < cN Θ 2)) (fun s1 k5 h2 ih3 hx4 => ?_) FU (none, (0 : Int32)) (fun q e => nomatch e)
    generalize s1.1 = x9 at h2 ⊢
    refine WA.blt ?_
    refine WA.nml ?_
    refine r_iload_n C dX3_firstToReturn_4 rfl ?_
    refine r_aload_n C dX3_firstToReturn_5 rfl ?_
    refine r_getI0 C dX3_firstToReturn_6 fg_X3_46 (by decide) ?_
    refine WA.bif ?_
    refine r_icmp_ge C 59 dX3_firstToReturn_9 (by decide) ?_ ?_
    · refine WA.wk (lv' := [none, none, some (va_rf (Option.map (cAd Θ 2) x9)), none, none]) [false, false, true, false, false] rfl ?_
      exact WA.eqK (hx4 _) (J8 x9 h2)
    · refine r_aload_n C dX3_firstToReturn_12 rfl ?_
      refine r_iload_n C dX3_firstToReturn_13 rfl ?_
      refine WA.asc ?_
      refine r_callV C (st := []) (As := [.int s1.2]) (d := 0) (j := 1) dX3_firstToReturn_14 ml_X3_145 vw_X3_personAt ⟨_, _, _, _, rfl, rfl⟩ (dm0 (by decide)) (fun r10 e => c_p_Firm_personAt Θ.1.2.1 (cW Θ) (cAd Θ) (cN Θ) σ s1.2 r10 e) rfl rfl (Nat.le_of_ble_eq_true rfl) ⟨rfl, rfl, by decide, by decide⟩ (fun r10 h11 => ?_)
      refine r_astore C (x := Option.map (cAd Θ 2) r10) [some (.ref (cF Θ 1)), some (.ref (cAd Θ 1 a1)), some (va_rf (Option.map (cAd Θ 2) x9)), some (.int s1.2), some (va_rf (Option.map (cAd Θ 2) r10))] dX3_firstToReturn_17 rfl (by decide) rfl ?_
      refine r_aloadQ C (x := Option.map (cAd Θ 2) r10) dX3_firstToReturn_19 rfl ?_
      refine WA.asc ?_
      refine WA.join (α := (Option Nat)) 53 (fun t12 => [some (.ref (cF Θ 1)), some (.ref (cAd Θ 1 a1)), some (va_rf (Option.map (cAd Θ 2) t12)), some (.int s1.2), none]) (fun t12 => []) (fun t12 => σ) (fun t12 => (∀ q, t12 = some q → q < cN Θ 2)) (fun t12 h13 => ?_) (fun J14 => ?_)
      · refine r_iinc C (1 : Int32) [some (.ref (cF Θ 1)), some (.ref (cAd Θ 1 a1)), some (va_rf (Option.map (cAd Θ 2) t12)), some (.int (s1.2 + (1 : Int32))), none] dX3_firstToReturn_53 (by decide) rfl rfl (by decide) (lvok_q (x := Option.map (cAd Θ 2) t12) rfl) ?_
        refine r_goto C 4 dX3_firstToReturn_56 (by decide) ?_
        refine WA.wk (lv' := [some (.ref (cF Θ 1)), some (.ref (cAd Θ 1 a1)), some (va_rf (Option.map (cAd Θ 2) t12)), some (.int (s1.2 + (1 : Int32))), none]) [true, true, true, true, false] rfl ?_
        exact ih3 (t12, s1.2 + (1 : Int32)) h13
      · refine WA.bel ?_
        rcases r10 with _ | q15
        · refine r_ifnullN C 53 dX3_firstToReturn_21 (by decide) ?_
          refine WA.wk (lv' := [some (.ref (cF Θ 1)), some (.ref (cAd Θ 1 a1)), some (va_rf (Option.map (cAd Θ 2) x9)), some (.int s1.2), none]) [true, true, true, true, false] rfl ?_
          exact J14 x9 h2
        · have h16 := h11 q15 rfl
          refine r_ifnullS C dX3_firstToReturn_21 ?_
          refine r_aload_n C dX3_firstToReturn_24 rfl ?_
          refine r_aload C dX3_firstToReturn_25 rfl ?_
          refine r_aload_n C dX3_firstToReturn_27 rfl ?_
          refine WA.asc ?_
          refine r_callV C (st := []) (As := [.ref (cAd Θ 2 q15), .ref (cAd Θ 1 a1)]) (d := 0) (j := 1) dX3_firstToReturn_28 ml_X3_155 vw_X3_mayReturn ⟨_, _, _, _, rfl, rfl⟩ (dm0 (by decide)) (fun r17 e => c_p_Firm_mayReturn Θ.1.2.1 (cW Θ) (cAd Θ) (cN Θ) σ q15 a1 h16 b1 r17 e) rfl rfl (Nat.le_of_ble_eq_true rfl) ⟨rfl, rfl, by decide, by decide⟩ (fun r17 h18 => ?_)
          refine WA.bif ?_
          refine r_if_eq C 53 dX3_firstToReturn_31 (by decide) ?_ ?_
          · refine WA.wk (lv' := [some (.ref (cF Θ 1)), some (.ref (cAd Θ 1 a1)), some (va_rf (Option.map (cAd Θ 2) x9)), some (.int s1.2), none]) [true, true, true, true, false] rfl ?_
            exact J14 x9 h2
          · refine r_aload_nQ C (x := Option.map (cAd Θ 2) x9) dX3_firstToReturn_34 rfl ?_
            refine WA.bel ?_
            rcases x9 with _ | q19
            · refine r_ifnullN C 50 dX3_firstToReturn_35 (by decide) ?_
              refine r_aload C dX3_firstToReturn_50 rfl ?_
              refine r_astore_n C (x := some (cAd Θ 2 q15)) [some (.ref (cF Θ 1)), some (.ref (cAd Θ 1 a1)), some (.ref (cAd Θ 2 q15)), some (.int s1.2), some (.ref (cAd Θ 2 q15))] dX3_firstToReturn_52 rfl (by decide) rfl ?_
              refine WA.wk (lv' := [some (.ref (cF Θ 1)), some (.ref (cAd Θ 1 a1)), some (va_rf (Option.map (cAd Θ 2) (some q15))), some (.int s1.2), none]) [true, true, true, true, false] rfl ?_
              exact J14 (some q15) (fun q e => (Option.some.inj e) ▸ h16)
            · have h20 := h2 q19 rfl
              refine r_ifnullS C dX3_firstToReturn_35 ?_
              refine r_aload C dX3_firstToReturn_38 rfl ?_
              refine r_getI C dX3_firstToReturn_40 (fg_X3_159 _) (by decide) h16 ?_
              refine r_aload_n C dX3_firstToReturn_43 rfl ?_
              refine r_getI C dX3_firstToReturn_44 (fg_X3_159 _) (by decide) h20 ?_
              refine WA.bif ?_
              refine r_icmp_ge C 53 dX3_firstToReturn_47 (by decide) ?_ ?_
              · refine WA.wk (lv' := [some (.ref (cF Θ 1)), some (.ref (cAd Θ 1 a1)), some (va_rf (Option.map (cAd Θ 2) (some q19))), some (.int s1.2), none]) [true, true, true, true, false] rfl ?_
                exact J14 (some q19) (fun q e => (Option.some.inj e) ▸ h20)
              · refine r_aload C dX3_firstToReturn_50 rfl ?_
                refine r_astore_n C (x := some (cAd Θ 2 q15)) [some (.ref (cF Θ 1)), some (.ref (cAd Θ 1 a1)), some (.ref (cAd Θ 2 q15)), some (.int s1.2), some (.ref (cAd Θ 2 q15))] dX3_firstToReturn_52 rfl (by decide) rfl ?_
                refine WA.wk (lv' := [some (.ref (cF Θ 1)), some (.ref (cAd Θ 1 a1)), some (va_rf (Option.map (cAd Θ 2) (some q15))), some (.int s1.2), none]) [true, true, true, true, false] rfl ?_
                exact J14 (some q15) (fun q e => (Option.some.inj e) ▸ h16)
theorem c_p_Firm_firstToReturn (l : Launch) (ω : Wd) (ad : Nat → Nat → Nat) (N : Nat → Nat) (σ : St) (a1 : Nat) (b1 : a1 < N 1) : ∀ r : Option Nat, p_Firm_firstToReturn σ a1 = some r → Ct l yX3_firstToReturn cX3_firstToReturn 5 (some (.object "PostsEnd$Person")) ({ frames := 3, cells := 0, slots := 0, locals := 66 } : Room) LC ω ad N [.ref (ω.2.1 1), .ref (ad 1 a1)] σ (some (va_rf (Option.map (ad 2) r))) σ (∀ q, r = some q → q < N 2) :=
  ct_of (o := fun r : Option Nat => (some (va_rf (Option.map (ad 2) r)))) (s' := fun r => σ) (P := fun r => ∀ q, r = some q → q < N 2) [some (.ref (ω.2.1 1)), some (.ref (ad 1 a1)), none, none, none] (by decide) rfl (Nat.le_of_ble_eq_true rfl) (fun Γ C _ _ => w_p_Firm_firstToReturn (Γ, ω, 5, ad, N, 0, 0) σ a1 b1 C)
theorem ag_LC_28 : AG LC 28 3 8 := ⟨by decide, rfl⟩
theorem fg_X4_11 : FG LC RX4 11 0 6 1 (1, 28) := ⟨_, _, _, _, _, rfl, rfl, rfl, by decide, uw_X4, (in_wt 310 (by decide +kernel) (by decide +kernel))⟩
theorem fg_X4_37 : FG LC RX4 37 0 6 7 (0, 0) := ⟨_, _, _, _, _, rfl, rfl, rfl, by decide, uw_X4, (in_wt 316 (by decide +kernel) (by decide +kernel))⟩
/-- PostsEnd$Offering.private PostsEnd$Person leaverAt(int) -/
def p_Offering_leaverAt (σ : St) (a1 : Int32) : Option (Option Nat) := (if a1 < 0 then some none else (if a1 < σ.1 0 6 7 then (if a1 < (8 : Int32) then (Option.bind (ix 8 a1) fun i3 => lt1 (σ.2 0 28 i3) fun x1 => some x1) else some none) else some none))
set_option maxRecDepth 20000 in
set_option maxHeartbeats 4000000 in
theorem w_p_Offering_leaverAt (Θ : TT) (σ : St) (a1 : Int32) (C : CX Θ cX4_leaverAt RX4 (some (.object "PostsEnd$Person")) ({ frames := 0, cells := 0, slots := 0, locals := 0 } : Room) 2) : WA LC Θ (fun r : Option Nat => Qm LC Θ (some (va_rf (Option.map (cAd Θ 2) r))) σ (∀ q, r = some q → q < cN Θ 2)) 0 [some (.ref (cF Θ 6)), some (.int a1)] [] σ (p_Offering_leaverAt σ a1) := by
  unfold p_Offering_leaverAt
  refine r_iload_n C dX4_leaverAt_0 rfl ?_
  refine r_if_lt C 27 dX4_leaverAt_1 (by decide) ?_ ?_
  · refine r_null C dX4_leaverAt_27 ?_
    exact r_aret C (x := Option.map (cAd Θ 2) none) dX4_leaverAt_28 rfl rfl (fun q e => nomatch e)
  · refine r_iload_n C dX4_leaverAt_4 rfl ?_
    refine r_aload_n C dX4_leaverAt_5 rfl ?_
    refine r_getI0 C dX4_leaverAt_6 fg_X4_37 (by decide) ?_
    refine r_icmp_ge C 27 dX4_leaverAt_9 (by decide) ?_ ?_
    · refine r_null C dX4_leaverAt_27 ?_
      exact r_aret C (x := Option.map (cAd Θ 2) none) dX4_leaverAt_28 rfl rfl (fun q e => nomatch e)
    · refine r_iload_n C dX4_leaverAt_12 rfl ?_
      refine r_bipush C (8 : Int32) dX4_leaverAt_13 (by decide) ?_
      refine r_icmp_ge C 27 dX4_leaverAt_15 (by decide) ?_ ?_
      · refine r_null C dX4_leaverAt_27 ?_
        exact r_aret C (x := Option.map (cAd Θ 2) none) dX4_leaverAt_28 rfl rfl (fun q e => nomatch e)
      · refine r_aload_n C dX4_leaverAt_18 rfl ?_
        refine r_getF0 C dX4_leaverAt_19 fg_X4_11 (by decide) ?_
        refine r_iload_n C dX4_leaverAt_22 rfl ?_
        refine r_aald C dX4_leaverAt_23 ag_LC_28 rfl (fun x1 h2 => ?_)
        refine r_goto C 28 dX4_leaverAt_24 (by decide) ?_
        exact r_aret C (x := Option.map (cAd Θ 2) x1) dX4_leaverAt_28 rfl rfl h2
theorem c_p_Offering_leaverAt (l : Launch) (ω : Wd) (ad : Nat → Nat → Nat) (N : Nat → Nat) (σ : St) (a1 : Int32) : ∀ r : Option Nat, p_Offering_leaverAt σ a1 = some r → Ct l yX4_leaverAt cX4_leaverAt 2 (some (.object "PostsEnd$Person")) ({ frames := 0, cells := 0, slots := 0, locals := 0 } : Room) LC ω ad N [.ref (ω.2.1 6), .int a1] σ (some (va_rf (Option.map (ad 2) r))) σ (∀ q, r = some q → q < N 2) :=
  ct_of (o := fun r : Option Nat => (some (va_rf (Option.map (ad 2) r)))) (s' := fun r => σ) (P := fun r => ∀ q, r = some q → q < N 2) [some (.ref (ω.2.1 6)), some (.int a1)] (by decide) rfl (Nat.le_of_ble_eq_true rfl) (fun Γ C _ _ => w_p_Offering_leaverAt (Γ, ω, 2, ad, N, 0, 0) σ a1 C)
theorem vw_X4_leaverAt : VW yX4_leaverAt cX4_leaverAt 2 (some (.object "PostsEnd$Person")) 1 := ⟨⟨(in_wt 86 (by decide +kernel) (by decide +kernel)), (in_wt 972 (by decide +kernel) (by decide +kernel)), by decide +kernel⟩, (in_wt 971 (by decide +kernel) (by decide +kernel)), (in_wt 19 (by decide +kernel) (by decide +kernel))⟩
theorem ml_X4_41 : Cond.methodLink RX4 41 yX4_leaverAt ∈ wt := in_wt 969 (by decide +kernel) (by decide +kernel)
/-- PostsEnd$Offering.boolean isTold(PostsEnd$Person) -/
def p_Offering_isTold (σ : St) (a1 : Nat) : Option Int32 := (Option.bind (itr0 (S := Int32) (E := ((Unit) ⊕ (Int32))) (fun s1 => (if s1 < σ.1 0 6 7 then (Option.bind (p_Offering_leaverAt σ s1) fun r9 => (if r9 = (some a1) then some (.inr (.inr (1 : Int32))) else some (.inl (s1 + (1 : Int32))))) else some (.inr (.inl ())))) FU (0 : Int32)) (Sum.elim (fun e6 => some (0 : Int32)) some))
set_option maxRecDepth 20000 in
set_option maxHeartbeats 4000000 in
theorem w_p_Offering_isTold (Θ : TT) (σ : St) (a1 : Nat) (b1 : a1 < cN Θ 2) (C : CX Θ cX4_isTold RX4 (some .boolean) ({ frames := 1, cells := 0, slots := 0, locals := 21 } : Room) 3) : WA LC Θ (fun r : Int32 => Qm LC Θ (some (.int r)) σ (narrow .boolean (.int r) = .int r)) 0 [some (.ref (cF Θ 6)), some (.ref (cAd Θ 2 a1)), none] [] σ (p_Offering_isTold σ a1) := by
  unfold p_Offering_isTold
  refine r_iconst C (0 : Int32) dX4_isTold_0 (by decide) ?_
  refine r_istore_n C [some (.ref (cF Θ 6)), some (.ref (cAd Θ 2 a1)), some (.int (0 : Int32))] dX4_isTold_1 rfl (by decide) rfl ?_
  refine WA.joinL (α := Unit) 27 (fun e6 => [none, none, none]) (fun e6 => []) (fun e6 => σ) (fun e6 => True) (fun e6 h7 => ?_) (fun J8 => ?_)
  · refine WA.sml ?_
    refine r_iconst C (0 : Int32) dX4_isTold_27 (by decide) ?_
    exact r_zret C dX4_isTold_28 (show narrow .boolean (.int (0 : Int32)) = .int (0 : Int32) from rfl) rfl rfl (show narrow .boolean (.int (0 : Int32)) = .int (0 : Int32) from rfl)
  · refine WA.wk (lv' := [some (.ref (cF Θ 6)), some (.ref (cAd Θ 2 a1)), some (.int (0 : Int32))]) [true, true, true] rfl ?_
    refine WA.itr (S := Int32) 2 (fun s1 => [some (.ref (cF Θ 6)), some (.ref (cAd Θ 2 a1)), some (.int s1)]) (fun s1 => []) (fun s1 => σ) (fun s1 => True) (fun s1 k5 h2 ih3 hx4 => ?_) FU (0 : Int32) trivial
    refine r_iload_n C dX4_isTold_2 rfl ?_
    refine r_aload_n C dX4_isTold_3 rfl ?_
    refine r_getI0 C dX4_isTold_4 fg_X4_37 (by decide) ?_
    refine WA.bif ?_
    refine r_icmp_ge C 27 dX4_isTold_7 (by decide) ?_ ?_
    · refine WA.wk (lv' := [none, none, none]) [false, false, false] rfl ?_
      exact WA.eqK (hx4 _) (J8 () trivial)
    · refine r_aload_n C dX4_isTold_10 rfl ?_
      refine r_iload_n C dX4_isTold_11 rfl ?_
      refine WA.asc ?_
      refine r_callV C (st := []) (As := [.int s1]) (d := 0) (j := 6) dX4_isTold_12 ml_X4_41 vw_X4_leaverAt ⟨_, _, _, _, rfl, rfl⟩ (dm0 (by decide)) (fun r9 e => c_p_Offering_leaverAt Θ.1.2.1 (cW Θ) (cAd Θ) (cN Θ) σ s1 r9 e) rfl rfl (Nat.le_of_ble_eq_true rfl) ⟨rfl, rfl, by decide, by decide⟩ (fun r9 h10 => ?_)
      refine r_aload_n C dX4_isTold_15 rfl ?_
      refine WA.bif ?_
      refine r_acmp_ne C 21 1 r9 (some a1) dX4_isTold_16 (by decide) (by decide) h10 (fun q e => (Option.some.inj e) ▸ b1) ?_ ?_
      · refine r_iinc C (1 : Int32) [some (.ref (cF Θ 6)), some (.ref (cAd Θ 2 a1)), some (.int (s1 + (1 : Int32)))] dX4_isTold_21 (by decide) rfl rfl (by decide) rfl ?_
        refine r_goto C 2 dX4_isTold_24 (by decide) ?_
        refine WA.wk (lv' := [some (.ref (cF Θ 6)), some (.ref (cAd Θ 2 a1)), some (.int (s1 + (1 : Int32)))]) [true, true, true] rfl ?_
        exact ih3 (s1 + (1 : Int32)) trivial
      · refine r_iconst C (1 : Int32) dX4_isTold_19 (by decide) ?_
        refine WA.eqK (hx4 _) ?_
        exact r_zret C dX4_isTold_20 (show narrow .boolean (.int (1 : Int32)) = .int (1 : Int32) from rfl) rfl rfl (show narrow .boolean (.int (1 : Int32)) = .int (1 : Int32) from rfl)
theorem c_p_Offering_isTold (l : Launch) (ω : Wd) (ad : Nat → Nat → Nat) (N : Nat → Nat) (σ : St) (a1 : Nat) (b1 : a1 < N 2) : ∀ r : Int32, p_Offering_isTold σ a1 = some r → Ct l yX4_isTold cX4_isTold 3 (some .boolean) ({ frames := 1, cells := 0, slots := 0, locals := 21 } : Room) LC ω ad N [.ref (ω.2.1 6), .ref (ad 2 a1)] σ (some (.int r)) σ (narrow .boolean (.int r) = .int r) :=
  ct_of (o := fun r : Int32 => (some (.int r))) (s' := fun r => σ) (P := fun r => narrow .boolean (.int r) = .int r) [some (.ref (ω.2.1 6)), some (.ref (ad 2 a1)), none] (by decide) rfl (Nat.le_of_ble_eq_true rfl) (fun Γ C _ _ => w_p_Offering_isTold (Γ, ω, 3, ad, N, 0, 0) σ a1 b1 C)
theorem fp_X4_37 : FP LC RX4 37 0 6 7 (0, 0) .int := ⟨_, _, _, _, _, tyX4, rfl, rfl, rfl, by decide, uw_X4, (in_wt 316 (by decide +kernel) (by decide +kernel)), tyX4_ok, nmX4, rfl, by decide +kernel⟩
/-- PostsEnd$Offering.int addLeaver(PostsEnd$Person) -/
def p_Offering_addLeaver (σ : St) (a1 : Nat) : Option (Int32 × St) := (Option.bind (α := St) ((if σ.1 0 6 7 < (8 : Int32) then (Option.bind (ix 8 (σ.1 0 6 7)) fun i4 => (lt1 (sy σ 0 28 i4 (some a1)) fun σ5 => (lt1 (sx σ5 0 6 7 ((σ5.1 0 6 7) + (1 : Int32))) fun σ6 => some σ6))) else some σ)) fun t1 => some (t1.1 0 6 7, t1))
set_option maxRecDepth 20000 in
set_option maxHeartbeats 4000000 in
theorem w_p_Offering_addLeaver (Θ : TT) (σ : St) (a1 : Nat) (b1 : a1 < cN Θ 2) (C : CX Θ cX4_addLeaver RX4 (some .int) ({ frames := 0, cells := 0, slots := 0, locals := 0 } : Room) 2) : WA LC Θ (fun r : Int32 × St => Qm LC Θ (some (.int r.1)) r.2 (True)) 0 [some (.ref (cF Θ 6)), some (.ref (cAd Θ 2 a1))] [] σ (p_Offering_addLeaver σ a1) := by
  unfold p_Offering_addLeaver
  refine r_aload_n C dX4_addLeaver_0 rfl ?_
  refine r_getI0 C dX4_addLeaver_1 fg_X4_37 (by decide) ?_
  refine r_bipush C (8 : Int32) dX4_addLeaver_4 (by decide) ?_
  refine WA.join (α := St) 29 (fun t1 => [some (.ref (cF Θ 6)), none]) (fun t1 => []) (fun t1 => t1) (fun t1 => True) (fun t1 h2 => ?_) (fun J3 => ?_)
  · refine r_aload_n C dX4_addLeaver_29 rfl ?_
    refine r_getI0 C dX4_addLeaver_30 fg_X4_37 (by decide) ?_
    exact r_iret C dX4_addLeaver_33 rfl rfl trivial
  · refine WA.bif ?_
    refine r_icmp_ge C 29 dX4_addLeaver_6 (by decide) ?_ ?_
    · refine WA.wk (lv' := [some (.ref (cF Θ 6)), none]) [true, false] rfl ?_
      exact J3 σ trivial
    · refine r_aload_n C dX4_addLeaver_9 rfl ?_
      refine r_getF0 C dX4_addLeaver_10 fg_X4_11 (by decide) ?_
      refine r_aload_n C dX4_addLeaver_13 rfl ?_
      refine r_getI0 C dX4_addLeaver_14 fg_X4_37 (by decide) ?_
      refine r_aload_n C dX4_addLeaver_17 rfl ?_
      refine WA.asc ?_
      refine r_aast C (x := (some a1)) dX4_addLeaver_18 ag_LC_28 rfl rfl (fun _ => rfl) (by decide) (fun q e => (Option.some.inj e) ▸ b1) (fun i4 => ?_)
      refine WA.genB (fun σ5 => ?_)
      refine r_aload_n C dX4_addLeaver_19 rfl ?_
      refine r_dup C dX4_addLeaver_20 rfl ?_
      refine r_getI0 C dX4_addLeaver_21 fg_X4_37 (by decide) ?_
      refine r_iconst C (1 : Int32) dX4_addLeaver_24 (by decide) ?_
      refine r_iadd C dX4_addLeaver_25 ?_
      refine r_putI0 C dX4_addLeaver_26 fp_X4_37 (by decide) ?_
      refine WA.genB (fun σ6 => ?_)
      refine WA.wk (lv' := [some (.ref (cF Θ 6)), none]) [true, false] rfl ?_
      exact J3 σ6 trivial
theorem c_p_Offering_addLeaver (l : Launch) (ω : Wd) (ad : Nat → Nat → Nat) (N : Nat → Nat) (σ : St) (a1 : Nat) (b1 : a1 < N 2) : ∀ r : Int32 × St, p_Offering_addLeaver σ a1 = some r → Ct l yX4_addLeaver cX4_addLeaver 2 (some .int) ({ frames := 0, cells := 0, slots := 0, locals := 0 } : Room) LC ω ad N [.ref (ω.2.1 6), .ref (ad 2 a1)] σ (some (.int r.1)) r.2 (True) :=
  ct_of (o := fun r : Int32 × St => (some (.int r.1))) (s' := fun r => r.2) (P := fun r => True) [some (.ref (ω.2.1 6)), some (.ref (ad 2 a1))] (by decide) rfl (Nat.le_of_ble_eq_true rfl) (fun Γ C _ _ => w_p_Offering_addLeaver (Γ, ω, 2, ad, N, 0, 0) σ a1 b1 C)
theorem ag_LC_29 : AG LC 29 2 8 := ⟨by decide, rfl⟩
theorem fg_X4_19 : FG LC RX4 19 0 6 2 (1, 29) := ⟨_, _, _, _, _, rfl, rfl, rfl, by decide, uw_X4, (in_wt 311 (by decide +kernel) (by decide +kernel))⟩
theorem fg_X4_45 : FG LC RX4 45 0 6 6 (0, 0) := ⟨_, _, _, _, _, rfl, rfl, rfl, by decide, uw_X4, (in_wt 315 (by decide +kernel) (by decide +kernel))⟩
/-- PostsEnd$Offering.private PostsEnd$Post vacantAt(int) -/
def p_Offering_vacantAt (σ : St) (a1 : Int32) : Option (Option Nat) := (if a1 < 0 then some none else (if a1 < σ.1 0 6 6 then (if a1 < (8 : Int32) then (Option.bind (ix 8 a1) fun i3 => lt1 (σ.2 0 29 i3) fun x1 => some x1) else some none) else some none))
set_option maxRecDepth 20000 in
set_option maxHeartbeats 4000000 in
theorem w_p_Offering_vacantAt (Θ : TT) (σ : St) (a1 : Int32) (C : CX Θ cX4_vacantAt RX4 (some (.object "PostsEnd$Post")) ({ frames := 0, cells := 0, slots := 0, locals := 0 } : Room) 2) : WA LC Θ (fun r : Option Nat => Qm LC Θ (some (va_rf (Option.map (cAd Θ 1) r))) σ (∀ q, r = some q → q < cN Θ 1)) 0 [some (.ref (cF Θ 6)), some (.int a1)] [] σ (p_Offering_vacantAt σ a1) := by
  unfold p_Offering_vacantAt
  refine r_iload_n C dX4_vacantAt_0 rfl ?_
  refine r_if_lt C 27 dX4_vacantAt_1 (by decide) ?_ ?_
  · refine r_null C dX4_vacantAt_27 ?_
    exact r_aret C (x := Option.map (cAd Θ 1) none) dX4_vacantAt_28 rfl rfl (fun q e => nomatch e)
  · refine r_iload_n C dX4_vacantAt_4 rfl ?_
    refine r_aload_n C dX4_vacantAt_5 rfl ?_
    refine r_getI0 C dX4_vacantAt_6 fg_X4_45 (by decide) ?_
    refine r_icmp_ge C 27 dX4_vacantAt_9 (by decide) ?_ ?_
    · refine r_null C dX4_vacantAt_27 ?_
      exact r_aret C (x := Option.map (cAd Θ 1) none) dX4_vacantAt_28 rfl rfl (fun q e => nomatch e)
    · refine r_iload_n C dX4_vacantAt_12 rfl ?_
      refine r_bipush C (8 : Int32) dX4_vacantAt_13 (by decide) ?_
      refine r_icmp_ge C 27 dX4_vacantAt_15 (by decide) ?_ ?_
      · refine r_null C dX4_vacantAt_27 ?_
        exact r_aret C (x := Option.map (cAd Θ 1) none) dX4_vacantAt_28 rfl rfl (fun q e => nomatch e)
      · refine r_aload_n C dX4_vacantAt_18 rfl ?_
        refine r_getF0 C dX4_vacantAt_19 fg_X4_19 (by decide) ?_
        refine r_iload_n C dX4_vacantAt_22 rfl ?_
        refine r_aald C dX4_vacantAt_23 ag_LC_29 rfl (fun x1 h2 => ?_)
        refine r_goto C 28 dX4_vacantAt_24 (by decide) ?_
        exact r_aret C (x := Option.map (cAd Θ 1) x1) dX4_vacantAt_28 rfl rfl h2
theorem c_p_Offering_vacantAt (l : Launch) (ω : Wd) (ad : Nat → Nat → Nat) (N : Nat → Nat) (σ : St) (a1 : Int32) : ∀ r : Option Nat, p_Offering_vacantAt σ a1 = some r → Ct l yX4_vacantAt cX4_vacantAt 2 (some (.object "PostsEnd$Post")) ({ frames := 0, cells := 0, slots := 0, locals := 0 } : Room) LC ω ad N [.ref (ω.2.1 6), .int a1] σ (some (va_rf (Option.map (ad 1) r))) σ (∀ q, r = some q → q < N 1) :=
  ct_of (o := fun r : Option Nat => (some (va_rf (Option.map (ad 1) r)))) (s' := fun r => σ) (P := fun r => ∀ q, r = some q → q < N 1) [some (.ref (ω.2.1 6)), some (.int a1)] (by decide) rfl (Nat.le_of_ble_eq_true rfl) (fun Γ C _ _ => w_p_Offering_vacantAt (Γ, ω, 2, ad, N, 0, 0) σ a1 C)
theorem fg_X4_33 : FG LC RX4 33 0 6 0 (1, 1) := ⟨_, _, _, _, _, rfl, rfl, rfl, by decide, uw_X4, (in_wt 309 (by decide +kernel) (by decide +kernel))⟩
theorem fg_X4_67 : FG LC RX4 67 0 1 2 (0, 0) := ⟨_, _, _, _, _, rfl, rfl, rfl, by decide, uw_X3, (in_wt 127 (by decide +kernel) (by decide +kernel))⟩
theorem fp_X4_45 : FP LC RX4 45 0 6 6 (0, 0) .int := ⟨_, _, _, _, _, tyX4, rfl, rfl, rfl, by decide, uw_X4, (in_wt 315 (by decide +kernel) (by decide +kernel)), tyX4_ok, nmX4, rfl, by decide +kernel⟩
theorem ml_X4_72 : Cond.methodLink RX4 72 yX3_postAt ∈ wt := in_wt 1001 (by decide +kernel) (by decide +kernel)
theorem ml_X4_76 : Cond.methodLink RX4 76 yX7_isVacant ∈ wt := in_wt 1002 (by decide +kernel) (by decide +kernel)
/-- PostsEnd$Offering.private void gatherVacant() -/
def p_Offering_gatherVacant (σ : St) : Option St := (lt1 (sx σ 0 6 6 (0 : Int32)) fun σ1 => (Option.bind (itr0 (S := Int32 × St) (E := St) (fun s2 => (if s2.1 < s2.2.1 0 1 2 then (if s2.2.1 0 6 6 < (8 : Int32) then (Option.bind (p_Firm_postAt s2.2 s2.1) fun r10 => (Option.bind (α := St) ((Option.elim r10 (some s2.2) fun q15 => (Option.bind (p_Post_isVacant s2.2 q15) fun r17 => (if r17 = 0 then some s2.2 else (Option.bind (ix 8 (s2.2.1 0 6 6)) fun i19 => (lt1 (sy s2.2 0 29 i19 (some q15)) fun σ20 => (lt1 (sx σ20 0 6 6 ((σ20.1 0 6 6) + (1 : Int32))) fun σ21 => some σ21))))))) fun t12 => some (.inl (s2.1 + (1 : Int32), t12)))) else some (.inr s2.2)) else some (.inr s2.2))) FU ((0 : Int32), σ1)) fun e7 => some e7))
set_option maxRecDepth 20000 in
set_option maxHeartbeats 4000000 in
theorem w_p_Offering_gatherVacant (Θ : TT) (σ : St)  (C : CX Θ cX4_gatherVacant RX4 none ({ frames := 2, cells := 0, slots := 0, locals := 40 } : Room) 3) : WA LC Θ (fun r : St => Qm LC Θ none r (True)) 0 [some (.ref (cF Θ 6)), none, none] [] σ (p_Offering_gatherVacant σ) := by
  unfold p_Offering_gatherVacant
  refine r_aload_n C dX4_gatherVacant_0 rfl ?_
  refine r_iconst C (0 : Int32) dX4_gatherVacant_1 (by decide) ?_
  refine r_putI0 C dX4_gatherVacant_2 fp_X4_45 (by decide) ?_
  refine WA.gen (fun σ1 => ?_)
  refine r_iconst C (0 : Int32) dX4_gatherVacant_5 (by decide) ?_
  refine r_istore_n C [some (.ref (cF Θ 6)), some (.int (0 : Int32)), none] dX4_gatherVacant_6 rfl (by decide) rfl ?_
  refine WA.join (α := St) 73 (fun e7 => [none, none, none]) (fun e7 => []) (fun e7 => e7) (fun e7 => True) (fun e7 h8 => ?_) (fun J9 => ?_)
  · exact r_vret C dX4_gatherVacant_73 rfl rfl trivial
  · refine WA.wk (lv' := [some (.ref (cF Θ 6)), some (.int (0 : Int32)), none]) [true, true, false] rfl ?_
    refine WA.itr (S := Int32 × St) 7 (fun s2 => [some (.ref (cF Θ 6)), some (.int s2.1), none]) (fun s2 => []) (fun s2 => s2.2) (fun s2 => True) (fun s2 k6 h3 ih4 hx5 => ?_) FU ((0 : Int32), σ1) trivial
    refine r_iload_n C dX4_gatherVacant_7 rfl ?_
    refine r_aload_n C dX4_gatherVacant_8 rfl ?_
    refine r_getF0 C dX4_gatherVacant_9 fg_X4_33 (by decide) ?_
    refine r_getI0 C dX4_gatherVacant_12 fg_X4_67 (by decide) ?_
    refine WA.bif ?_
    refine r_icmp_ge C 73 dX4_gatherVacant_15 (by decide) ?_ ?_
    · refine WA.wk (lv' := [none, none, none]) [false, false, false] rfl ?_
      exact WA.eqK (hx5 _) (J9 s2.2 trivial)
    · refine r_aload_n C dX4_gatherVacant_18 rfl ?_
      refine r_getI0 C dX4_gatherVacant_19 fg_X4_45 (by decide) ?_
      refine r_bipush C (8 : Int32) dX4_gatherVacant_22 (by decide) ?_
      refine WA.bif ?_
      refine r_icmp_ge C 73 dX4_gatherVacant_24 (by decide) ?_ ?_
      · refine WA.wk (lv' := [none, none, none]) [false, false, false] rfl ?_
        exact WA.eqK (hx5 _) (J9 s2.2 trivial)
      · refine r_aload_n C dX4_gatherVacant_27 rfl ?_
        refine r_getF0 C dX4_gatherVacant_28 fg_X4_33 (by decide) ?_
        refine r_iload_n C dX4_gatherVacant_31 rfl ?_
        refine WA.asc ?_
        refine r_callV C (st := []) (As := [.int s2.1]) (d := 0) (j := 1) dX4_gatherVacant_32 ml_X4_72 vw_X3_postAt ⟨_, _, _, _, rfl, rfl⟩ (dm0 (by decide)) (fun r10 e => c_p_Firm_postAt Θ.1.2.1 (cW Θ) (cAd Θ) (cN Θ) s2.2 s2.1 r10 e) rfl rfl (Nat.le_of_ble_eq_true rfl) ⟨rfl, rfl, by decide, by decide⟩ (fun r10 h11 => ?_)
        refine r_astore_n C (x := Option.map (cAd Θ 1) r10) [some (.ref (cF Θ 6)), some (.int s2.1), some (va_rf (Option.map (cAd Θ 1) r10))] dX4_gatherVacant_35 rfl (by decide) rfl ?_
        refine r_aload_nQ C (x := Option.map (cAd Θ 1) r10) dX4_gatherVacant_36 rfl ?_
        refine WA.asc ?_
        refine WA.join (α := St) 67 (fun t12 => [some (.ref (cF Θ 6)), some (.int s2.1), none]) (fun t12 => []) (fun t12 => t12) (fun t12 => True) (fun t12 h13 => ?_) (fun J14 => ?_)
        · refine r_iinc C (1 : Int32) [some (.ref (cF Θ 6)), some (.int (s2.1 + (1 : Int32))), none] dX4_gatherVacant_67 (by decide) rfl rfl (by decide) rfl ?_
          refine r_goto C 7 dX4_gatherVacant_70 (by decide) ?_
          refine WA.wk (lv' := [some (.ref (cF Θ 6)), some (.int (s2.1 + (1 : Int32))), none]) [true, true, false] rfl ?_
          exact ih4 (s2.1 + (1 : Int32), t12) trivial
        · refine WA.bel ?_
          rcases r10 with _ | q15
          · refine r_ifnullN C 67 dX4_gatherVacant_37 (by decide) ?_
            refine WA.wk (lv' := [some (.ref (cF Θ 6)), some (.int s2.1), none]) [true, true, false] rfl ?_
            exact J14 s2.2 trivial
          · have h16 := h11 q15 rfl
            refine r_ifnullS C dX4_gatherVacant_37 ?_
            refine r_aload_n C dX4_gatherVacant_40 rfl ?_
            refine WA.asc ?_
            refine r_callV C (st := []) (As := []) (d := 1) (j := q15) dX4_gatherVacant_41 ml_X4_76 vw_X7_isVacant ⟨_, _, _, _, rfl, rfl⟩ (dmk (by decide) (by decide) h16) (fun r17 e => c_p_Post_isVacant Θ.1.2.1 (cW Θ) (cAd Θ) (cN Θ) s2.2 q15 h16 r17 e) rfl rfl (Nat.le_of_ble_eq_true rfl) ⟨rfl, rfl, by decide, by decide⟩ (fun r17 h18 => ?_)
            refine WA.bif ?_
            refine r_if_eq C 67 dX4_gatherVacant_44 (by decide) ?_ ?_
            · refine WA.wk (lv' := [some (.ref (cF Θ 6)), some (.int s2.1), none]) [true, true, false] rfl ?_
              exact J14 s2.2 trivial
            · refine r_aload_n C dX4_gatherVacant_47 rfl ?_
              refine r_getF0 C dX4_gatherVacant_48 fg_X4_19 (by decide) ?_
              refine r_aload_n C dX4_gatherVacant_51 rfl ?_
              refine r_getI0 C dX4_gatherVacant_52 fg_X4_45 (by decide) ?_
              refine r_aload_n C dX4_gatherVacant_55 rfl ?_
              refine WA.asc ?_
              refine r_aast C (x := (some q15)) dX4_gatherVacant_56 ag_LC_29 rfl rfl (fun _ => rfl) (by decide) (fun q e => (Option.some.inj e) ▸ h16) (fun i19 => ?_)
              refine WA.genB (fun σ20 => ?_)
              refine r_aload_n C dX4_gatherVacant_57 rfl ?_
              refine r_dup C dX4_gatherVacant_58 rfl ?_
              refine r_getI0 C dX4_gatherVacant_59 fg_X4_45 (by decide) ?_
              refine r_iconst C (1 : Int32) dX4_gatherVacant_62 (by decide) ?_
              refine r_iadd C dX4_gatherVacant_63 ?_
              refine r_putI0 C dX4_gatherVacant_64 fp_X4_45 (by decide) ?_
              refine WA.genB (fun σ21 => ?_)
              refine WA.wk (lv' := [some (.ref (cF Θ 6)), some (.int s2.1), none]) [true, true, false] rfl ?_
              exact J14 σ21 trivial
theorem c_p_Offering_gatherVacant (l : Launch) (ω : Wd) (ad : Nat → Nat → Nat) (N : Nat → Nat) (σ : St)  : ∀ r : St, p_Offering_gatherVacant σ = some r → Ct l yX4_gatherVacant cX4_gatherVacant 3 none ({ frames := 2, cells := 0, slots := 0, locals := 40 } : Room) LC ω ad N [.ref (ω.2.1 6)] σ none r (True) :=
  ct_of (o := fun r : St => none) (s' := fun r => r) (P := fun r => True) [some (.ref (ω.2.1 6)), none, none] (by decide) rfl (Nat.le_of_ble_eq_true rfl) (fun Γ C _ _ => w_p_Offering_gatherVacant (Γ, ω, 3, ad, N, 0, 0) σ  C)
theorem vw_X3_fitFor : VW yX3_fitFor cX3_fitFor 5 (some .int) 2 := ⟨⟨(in_wt 81 (by decide +kernel) (by decide +kernel)), (in_wt 988 (by decide +kernel) (by decide +kernel)), by decide +kernel⟩, (in_wt 986 (by decide +kernel) (by decide +kernel)), (in_wt 987 (by decide +kernel) (by decide +kernel))⟩
theorem kc_X4_97 : Cond.constant RX4 97 (1000000) ∈ wt := in_wt 1018 (by decide +kernel) (by decide +kernel)
theorem ml_X4_87 : Cond.methodLink RX4 87 yX5_isHere ∈ wt := in_wt 1015 (by decide +kernel) (by decide +kernel)
theorem ml_X4_90 : Cond.methodLink RX4 90 yX3_fitFor ∈ wt := in_wt 1016 (by decide +kernel) (by decide +kernel)
theorem ml_X4_93 : Cond.methodLink RX4 93 yX3_isProtected ∈ wt := in_wt 1017 (by decide +kernel) (by decide +kernel)
/-- PostsEnd$Offering.private int worthTo(PostsEnd$Person, PostsEnd$Post) -/
def p_Offering_worthTo (σ : St) (a1 : Option Nat) (a2 : Option Nat) : Option Int32 := (Option.elim a1 (some (0 : Int32)) fun q1 => (Option.elim a2 (some (0 : Int32)) fun q3 => (Option.bind (p_Person_isHere σ q1) fun r5 => (if r5 = 0 then some (0 : Int32) else (Option.bind (p_Firm_fitFor σ q1 q3) fun r7 => (if r7 < (30 : Int32) then some (0 : Int32) else (Option.bind (p_Firm_isProtected σ q1) fun r9 => (Option.bind (α := Int32) ((if r9 = 0 then some (0 : Int32) else some (1000000 : Int32))) fun t11 => some ((r7 + (1000 : Int32)) + t11)))))))))
set_option maxRecDepth 20000 in
set_option maxHeartbeats 4000000 in
theorem w_p_Offering_worthTo (Θ : TT) (σ : St) (a1 : Option Nat) (a2 : Option Nat) (b1 : ∀ q, a1 = some q → q < cN Θ 2) (b2 : ∀ q, a2 = some q → q < cN Θ 1) (C : CX Θ cX4_worthTo RX4 (some .int) ({ frames := 3, cells := 0, slots := 0, locals := 66 } : Room) 4) : WA LC Θ (fun r : Int32 => Qm LC Θ (some (.int r)) σ (True)) 0 [some (.ref (cF Θ 6)), some (va_rf (Option.map (cAd Θ 2) a1)), some (va_rf (Option.map (cAd Θ 1) a2)), none] [] σ (p_Offering_worthTo σ a1 a2) := by
  unfold p_Offering_worthTo
  refine r_aload_nQ C (x := Option.map (cAd Θ 2) a1) dX4_worthTo_0 rfl ?_
  rcases a1 with _ | q1
  · refine r_ifnullN C 15 dX4_worthTo_1 (by decide) ?_
    refine r_iconst C (0 : Int32) dX4_worthTo_15 (by decide) ?_
    exact r_iret C dX4_worthTo_16 rfl rfl trivial
  · have h2 := b1 q1 rfl
    refine r_ifnullS C dX4_worthTo_1 ?_
    refine r_aload_nQ C (x := Option.map (cAd Θ 1) a2) dX4_worthTo_4 rfl ?_
    rcases a2 with _ | q3
    · refine r_ifnullN C 15 dX4_worthTo_5 (by decide) ?_
      refine r_iconst C (0 : Int32) dX4_worthTo_15 (by decide) ?_
      exact r_iret C dX4_worthTo_16 rfl rfl trivial
    · have h4 := b2 q3 rfl
      refine r_ifnullS C dX4_worthTo_5 ?_
      refine r_aload_n C dX4_worthTo_8 rfl ?_
      refine r_callV C (st := []) (As := []) (d := 2) (j := q1) dX4_worthTo_9 ml_X4_87 vw_X5_isHere ⟨_, _, _, _, rfl, rfl⟩ (dmk (by decide) (by decide) h2) (fun r5 e => c_p_Person_isHere Θ.1.2.1 (cW Θ) (cAd Θ) (cN Θ) σ q1 h2 r5 e) rfl rfl (Nat.le_of_ble_eq_true rfl) ⟨rfl, rfl, by decide, by decide⟩ (fun r5 h6 => ?_)
      refine r_if_ne C 17 dX4_worthTo_12 (by decide) ?_ ?_
      · refine r_aload_n C dX4_worthTo_17 rfl ?_
        refine r_getF0 C dX4_worthTo_18 fg_X4_33 (by decide) ?_
        refine r_aload_n C dX4_worthTo_21 rfl ?_
        refine r_aload_n C dX4_worthTo_22 rfl ?_
        refine r_callV C (st := []) (As := [.ref (cAd Θ 2 q1), .ref (cAd Θ 1 q3)]) (d := 0) (j := 1) dX4_worthTo_23 ml_X4_90 vw_X3_fitFor ⟨_, _, _, _, rfl, rfl⟩ (dm0 (by decide)) (fun r7 e => c_p_Firm_fitFor Θ.1.2.1 (cW Θ) (cAd Θ) (cN Θ) σ q1 q3 h2 h4 r7 e) rfl rfl (Nat.le_of_ble_eq_true rfl) ⟨rfl, rfl, by decide, by decide⟩ (fun r7 h8 => ?_)
        refine r_istore_n C [some (.ref (cF Θ 6)), some (.ref (cAd Θ 2 q1)), some (.ref (cAd Θ 1 q3)), some (.int r7)] dX4_worthTo_26 rfl (by decide) rfl ?_
        refine r_iload_n C dX4_worthTo_27 rfl ?_
        refine r_bipush C (30 : Int32) dX4_worthTo_28 (by decide) ?_
        refine r_icmp_ge C 35 dX4_worthTo_30 (by decide) ?_ ?_
        · refine r_iload_n C dX4_worthTo_35 rfl ?_
          refine r_sipush C (1000 : Int32) dX4_worthTo_36 (by decide) ?_
          refine r_iadd C dX4_worthTo_39 ?_
          refine r_aload_n C dX4_worthTo_40 rfl ?_
          refine r_getF0 C dX4_worthTo_41 fg_X4_33 (by decide) ?_
          refine r_aload_n C dX4_worthTo_44 rfl ?_
          refine r_callV C (st := [.int (r7 + (1000 : Int32))]) (As := [.ref (cAd Θ 2 q1)]) (d := 0) (j := 1) dX4_worthTo_45 ml_X4_93 vw_X3_isProtected ⟨_, _, _, _, rfl, rfl⟩ (dm0 (by decide)) (fun r9 e => c_p_Firm_isProtected Θ.1.2.1 (cW Θ) (cAd Θ) (cN Θ) σ q1 h2 r9 e) rfl rfl (Nat.le_of_ble_eq_true rfl) ⟨rfl, rfl, by decide, by decide⟩ (fun r9 h10 => ?_)
          refine WA.join (α := Int32) 57 (fun t11 => [none, none, none, none]) (fun t11 => [.int t11, .int (r7 + (1000 : Int32))]) (fun t11 => σ) (fun t11 => True) (fun t11 h12 => ?_) (fun J13 => ?_)
          · refine r_iadd C dX4_worthTo_57 ?_
            exact r_iret C dX4_worthTo_58 rfl rfl trivial
          · refine WA.bif ?_
            refine r_if_eq C 56 dX4_worthTo_48 (by decide) ?_ ?_
            · refine r_iconst C (0 : Int32) dX4_worthTo_56 (by decide) ?_
              refine WA.wk (lv' := [none, none, none, none]) [false, false, false, false] rfl ?_
              exact J13 (0 : Int32) trivial
            · refine r_ldc C dX4_worthTo_51 kc_X4_97 ?_
              refine r_goto C 57 dX4_worthTo_53 (by decide) ?_
              refine WA.wk (lv' := [none, none, none, none]) [false, false, false, false] rfl ?_
              exact J13 (1000000 : Int32) trivial
        · refine r_iconst C (0 : Int32) dX4_worthTo_33 (by decide) ?_
          exact r_iret C dX4_worthTo_34 rfl rfl trivial
      · refine r_iconst C (0 : Int32) dX4_worthTo_15 (by decide) ?_
        exact r_iret C dX4_worthTo_16 rfl rfl trivial
theorem c_p_Offering_worthTo (l : Launch) (ω : Wd) (ad : Nat → Nat → Nat) (N : Nat → Nat) (σ : St) (a1 : Option Nat) (a2 : Option Nat) (b1 : ∀ q, a1 = some q → q < N 2) (b2 : ∀ q, a2 = some q → q < N 1) : ∀ r : Int32, p_Offering_worthTo σ a1 a2 = some r → Ct l yX4_worthTo cX4_worthTo 4 (some .int) ({ frames := 3, cells := 0, slots := 0, locals := 66 } : Room) LC ω ad N [.ref (ω.2.1 6), va_rf (Option.map (ad 2) a1), va_rf (Option.map (ad 1) a2)] σ (some (.int r)) σ (True) :=
  ct_of (o := fun r : Int32 => (some (.int r))) (s' := fun r => σ) (P := fun r => True) [some (.ref (ω.2.1 6)), some (va_rf (Option.map (ad 2) a1)), some (va_rf (Option.map (ad 1) a2)), none] (by decide) (by simp [pr, lv_args, cat_rf, cat_i, cat_r]) (by simp [lg_sl, cat_rf, cat_i, cat_r]) (fun Γ C _ _ => w_p_Offering_worthTo (Γ, ω, 4, ad, N, 0, 0) σ a1 a2 b1 b2 C)
theorem ag_LC_30 : AG LC 30 0 64 := ⟨by decide, rfl⟩
theorem vw_X4_vacantAt : VW yX4_vacantAt cX4_vacantAt 2 (some (.object "PostsEnd$Post")) 1 := ⟨⟨(in_wt 86 (by decide +kernel) (by decide +kernel)), (in_wt 1010 (by decide +kernel) (by decide +kernel)), by decide +kernel⟩, (in_wt 1009 (by decide +kernel) (by decide +kernel)), (in_wt 22 (by decide +kernel) (by decide +kernel))⟩
theorem vw_X4_worthTo : VW yX4_worthTo cX4_worthTo 4 (some .int) 2 := ⟨⟨(in_wt 86 (by decide +kernel) (by decide +kernel)), (in_wt 1014 (by decide +kernel) (by decide +kernel)), by decide +kernel⟩, (in_wt 1013 (by decide +kernel) (by decide +kernel)), (in_wt 23 (by decide +kernel) (by decide +kernel))⟩
theorem fg_X4_23 : FG LC RX4 23 0 6 3 (1, 30) := ⟨_, _, _, _, _, rfl, rfl, rfl, by decide, uw_X4, (in_wt 312 (by decide +kernel) (by decide +kernel))⟩
theorem ml_X4_80 : Cond.methodLink RX4 80 yX4_vacantAt ∈ wt := in_wt 1007 (by decide +kernel) (by decide +kernel)
theorem ml_X4_83 : Cond.methodLink RX4 83 yX4_worthTo ∈ wt := in_wt 1011 (by decide +kernel) (by decide +kernel)
/-- PostsEnd$Offering.private void gatherWorth(int) -/
def p_Offering_gatherWorth (σ : St) (a1 : Int32) : Option St := (Option.bind (itr0 (S := Int32 × St) (E := St) (fun s1 => (if s1.1 < (8 : Int32) then (Option.bind (α := St) ((if (a1 * (8 : Int32)) + s1.1 < 0 then some s1.2 else (if (a1 * (8 : Int32)) + s1.1 < (64 : Int32) then (Option.bind (p_Offering_leaverAt s1.2 a1) fun r12 => (Option.bind (p_Offering_vacantAt s1.2 s1.1) fun r14 => (Option.bind (p_Offering_worthTo s1.2 r12 r14) fun r16 => (Option.bind (ix 64 ((a1 * (8 : Int32)) + s1.1)) fun i18 => (lt1 (sx s1.2 0 30 i18 r16) fun σ19 => some σ19))))) else some s1.2))) fun t9 => some (.inl (s1.1 + (1 : Int32), t9))) else some (.inr s1.2))) FU ((0 : Int32), σ)) fun e6 => some e6)
set_option maxRecDepth 20000 in
set_option maxHeartbeats 4000000 in
theorem w_p_Offering_gatherWorth (Θ : TT) (σ : St) (a1 : Int32) (C : CX Θ cX4_gatherWorth RX4 none ({ frames := 4, cells := 0, slots := 0, locals := 89 } : Room) 4) : WA LC Θ (fun r : St => Qm LC Θ none r (True)) 0 [some (.ref (cF Θ 6)), some (.int a1), none, none] [] σ (p_Offering_gatherWorth σ a1) := by
  unfold p_Offering_gatherWorth
  refine r_iconst C (0 : Int32) dX4_gatherWorth_0 (by decide) ?_
  refine r_istore_n C [some (.ref (cF Θ 6)), some (.int a1), some (.int (0 : Int32)), none] dX4_gatherWorth_1 rfl (by decide) rfl ?_
  refine WA.join (α := St) 54 (fun e6 => [none, none, none, none]) (fun e6 => []) (fun e6 => e6) (fun e6 => True) (fun e6 h7 => ?_) (fun J8 => ?_)
  · exact r_vret C dX4_gatherWorth_54 rfl rfl trivial
  · refine WA.wk (lv' := [some (.ref (cF Θ 6)), some (.int a1), some (.int (0 : Int32)), none]) [true, true, true, false] rfl ?_
    refine WA.itr (S := Int32 × St) 2 (fun s1 => [some (.ref (cF Θ 6)), some (.int a1), some (.int s1.1), none]) (fun s1 => []) (fun s1 => s1.2) (fun s1 => True) (fun s1 k5 h2 ih3 hx4 => ?_) FU ((0 : Int32), σ) trivial
    refine r_iload_n C dX4_gatherWorth_2 rfl ?_
    refine r_bipush C (8 : Int32) dX4_gatherWorth_3 (by decide) ?_
    refine WA.bif ?_
    refine r_icmp_ge C 54 dX4_gatherWorth_5 (by decide) ?_ ?_
    · refine WA.wk (lv' := [none, none, none, none]) [false, false, false, false] rfl ?_
      exact WA.eqK (hx4 _) (J8 s1.2 trivial)
    · refine r_iload_n C dX4_gatherWorth_8 rfl ?_
      refine r_bipush C (8 : Int32) dX4_gatherWorth_9 (by decide) ?_
      refine r_imul C dX4_gatherWorth_11 ?_
      refine r_iload_n C dX4_gatherWorth_12 rfl ?_
      refine r_iadd C dX4_gatherWorth_13 ?_
      refine r_istore_n C [some (.ref (cF Θ 6)), some (.int a1), some (.int s1.1), some (.int ((a1 * (8 : Int32)) + s1.1))] dX4_gatherWorth_14 rfl (by decide) rfl ?_
      refine r_iload_n C dX4_gatherWorth_15 rfl ?_
      refine WA.asc ?_
      refine WA.join (α := St) 48 (fun t9 => [some (.ref (cF Θ 6)), some (.int a1), some (.int s1.1), none]) (fun t9 => []) (fun t9 => t9) (fun t9 => True) (fun t9 h10 => ?_) (fun J11 => ?_)
      · refine r_iinc C (1 : Int32) [some (.ref (cF Θ 6)), some (.int a1), some (.int (s1.1 + (1 : Int32))), none] dX4_gatherWorth_48 (by decide) rfl rfl (by decide) rfl ?_
        refine r_goto C 2 dX4_gatherWorth_51 (by decide) ?_
        refine WA.wk (lv' := [some (.ref (cF Θ 6)), some (.int a1), some (.int (s1.1 + (1 : Int32))), none]) [true, true, true, false] rfl ?_
        exact ih3 (s1.1 + (1 : Int32), t9) trivial
      · refine WA.bif ?_
        refine r_if_lt C 48 dX4_gatherWorth_16 (by decide) ?_ ?_
        · refine WA.wk (lv' := [some (.ref (cF Θ 6)), some (.int a1), some (.int s1.1), none]) [true, true, true, false] rfl ?_
          exact J11 s1.2 trivial
        · refine r_iload_n C dX4_gatherWorth_19 rfl ?_
          refine r_aload_n C dX4_gatherWorth_20 rfl ?_
          refine r_getF0 C dX4_gatherWorth_21 fg_X4_23 (by decide) ?_
          refine r_alen C (64 : Int32) dX4_gatherWorth_24 ag_LC_30 rfl ?_
          refine WA.bif ?_
          refine r_icmp_ge C 48 dX4_gatherWorth_25 (by decide) ?_ ?_
          · refine WA.wk (lv' := [some (.ref (cF Θ 6)), some (.int a1), some (.int s1.1), none]) [true, true, true, false] rfl ?_
            exact J11 s1.2 trivial
          · refine r_aload_n C dX4_gatherWorth_28 rfl ?_
            refine r_getF0 C dX4_gatherWorth_29 fg_X4_23 (by decide) ?_
            refine r_iload_n C dX4_gatherWorth_32 rfl ?_
            refine r_aload_n C dX4_gatherWorth_33 rfl ?_
            refine r_aload_n C dX4_gatherWorth_34 rfl ?_
            refine r_iload_n C dX4_gatherWorth_35 rfl ?_
            refine WA.asc ?_
            refine r_callV C (st := [.ref (cF Θ 6), .int ((a1 * (8 : Int32)) + s1.1), .ref (cF Θ 30)]) (As := [.int a1]) (d := 0) (j := 6) dX4_gatherWorth_36 ml_X4_41 vw_X4_leaverAt ⟨_, _, _, _, rfl, rfl⟩ (dm0 (by decide)) (fun r12 e => c_p_Offering_leaverAt Θ.1.2.1 (cW Θ) (cAd Θ) (cN Θ) s1.2 a1 r12 e) rfl rfl (Nat.le_of_ble_eq_true rfl) ⟨rfl, rfl, by decide, by decide⟩ (fun r12 h13 => ?_)
            refine r_aload_n C dX4_gatherWorth_39 rfl ?_
            refine r_iload_n C dX4_gatherWorth_40 rfl ?_
            refine WA.asc ?_
            refine r_callV C (st := [va_rf (Option.map (cAd Θ 2) r12), .ref (cF Θ 6), .int ((a1 * (8 : Int32)) + s1.1), .ref (cF Θ 30)]) (As := [.int s1.1]) (d := 0) (j := 6) dX4_gatherWorth_41 ml_X4_80 vw_X4_vacantAt ⟨_, _, _, _, rfl, rfl⟩ (dm0 (by decide)) (fun r14 e => c_p_Offering_vacantAt Θ.1.2.1 (cW Θ) (cAd Θ) (cN Θ) s1.2 s1.1 r14 e) rfl rfl (by simp [cat_rf, cat_i, cat_r]) ⟨rfl, rfl, by decide, by decide⟩ (fun r14 h15 => ?_)
            refine WA.asc ?_
            refine r_callV C (st := [.int ((a1 * (8 : Int32)) + s1.1), .ref (cF Θ 30)]) (As := [va_rf (Option.map (cAd Θ 2) r12), va_rf (Option.map (cAd Θ 1) r14)]) (d := 0) (j := 6) dX4_gatherWorth_44 ml_X4_83 vw_X4_worthTo ⟨_, _, _, _, rfl, rfl⟩ (dm0 (by decide)) (fun r16 e => c_p_Offering_worthTo Θ.1.2.1 (cW Θ) (cAd Θ) (cN Θ) s1.2 r12 r14 h13 h15 r16 e) rfl rfl (Nat.le_of_ble_eq_true rfl) ⟨rfl, rfl, by decide, by decide⟩ (fun r16 h17 => ?_)
            refine WA.asc ?_
            refine r_iast C dX4_gatherWorth_47 ag_LC_30 (fun i18 => ?_)
            refine WA.genB (fun σ19 => ?_)
            refine WA.wk (lv' := [some (.ref (cF Θ 6)), some (.int a1), some (.int s1.1), none]) [true, true, true, false] rfl ?_
            exact J11 σ19 trivial
theorem c_p_Offering_gatherWorth (l : Launch) (ω : Wd) (ad : Nat → Nat → Nat) (N : Nat → Nat) (σ : St) (a1 : Int32) : ∀ r : St, p_Offering_gatherWorth σ a1 = some r → Ct l yX4_gatherWorth cX4_gatherWorth 4 none ({ frames := 4, cells := 0, slots := 0, locals := 89 } : Room) LC ω ad N [.ref (ω.2.1 6), .int a1] σ none r (True) :=
  ct_of (o := fun r : St => none) (s' := fun r => r) (P := fun r => True) [some (.ref (ω.2.1 6)), some (.int a1), none, none] (by decide) rfl (Nat.le_of_ble_eq_true rfl) (fun Γ C _ _ => w_p_Offering_gatherWorth (Γ, ω, 4, ad, N, 0, 0) σ a1 C)
theorem ag_LC_31 : AG LC 31 0 2304 := ⟨by decide, rfl⟩
theorem fg_X4_27 : FG LC RX4 27 0 6 4 (1, 31) := ⟨_, _, _, _, _, rfl, rfl, rfl, by decide, uw_X4, (in_wt 313 (by decide +kernel) (by decide +kernel))⟩
/-- PostsEnd$Offering.private int bestFrom(int, int) -/
def p_Offering_bestFrom (σ : St) (a1 : Int32) (a2 : Int32) : Option Int32 := (if (a1 * (256 : Int32)) + a2 < 0 then some (0 : Int32) else (if (a1 * (256 : Int32)) + a2 < (2304 : Int32) then (Option.bind (ix 2304 ((a1 * (256 : Int32)) + a2)) fun i1 => some (σ.1 0 31 i1)) else some (0 : Int32)))
set_option maxRecDepth 20000 in
set_option maxHeartbeats 4000000 in
theorem w_p_Offering_bestFrom (Θ : TT) (σ : St) (a1 : Int32) (a2 : Int32) (C : CX Θ cX4_bestFrom RX4 (some .int) ({ frames := 0, cells := 0, slots := 0, locals := 0 } : Room) 4) : WA LC Θ (fun r : Int32 => Qm LC Θ (some (.int r)) σ (True)) 0 [some (.ref (cF Θ 6)), some (.int a1), some (.int a2), none] [] σ (p_Offering_bestFrom σ a1 a2) := by
  unfold p_Offering_bestFrom
  refine r_iload_n C dX4_bestFrom_0 rfl ?_
  refine r_sipush C (256 : Int32) dX4_bestFrom_1 (by decide) ?_
  refine r_imul C dX4_bestFrom_4 ?_
  refine r_iload_n C dX4_bestFrom_5 rfl ?_
  refine r_iadd C dX4_bestFrom_6 ?_
  refine r_istore_n C [some (.ref (cF Θ 6)), some (.int a1), some (.int a2), some (.int ((a1 * (256 : Int32)) + a2))] dX4_bestFrom_7 rfl (by decide) rfl ?_
  refine r_iload_n C dX4_bestFrom_8 rfl ?_
  refine r_if_lt C 30 dX4_bestFrom_9 (by decide) ?_ ?_
  · refine r_iconst C (0 : Int32) dX4_bestFrom_30 (by decide) ?_
    exact r_iret C dX4_bestFrom_31 rfl rfl trivial
  · refine r_iload_n C dX4_bestFrom_12 rfl ?_
    refine r_aload_n C dX4_bestFrom_13 rfl ?_
    refine r_getF0 C dX4_bestFrom_14 fg_X4_27 (by decide) ?_
    refine r_alen C (2304 : Int32) dX4_bestFrom_17 ag_LC_31 rfl ?_
    refine r_icmp_ge C 30 dX4_bestFrom_18 (by decide) ?_ ?_
    · refine r_iconst C (0 : Int32) dX4_bestFrom_30 (by decide) ?_
      exact r_iret C dX4_bestFrom_31 rfl rfl trivial
    · refine r_aload_n C dX4_bestFrom_21 rfl ?_
      refine r_getF0 C dX4_bestFrom_22 fg_X4_27 (by decide) ?_
      refine r_iload_n C dX4_bestFrom_25 rfl ?_
      refine r_iald (α := Unit) C dX4_bestFrom_26 ag_LC_31 (fun i1 => ?_)
      refine r_goto C 31 dX4_bestFrom_27 (by decide) ?_
      exact r_iret C dX4_bestFrom_31 rfl rfl trivial
theorem c_p_Offering_bestFrom (l : Launch) (ω : Wd) (ad : Nat → Nat → Nat) (N : Nat → Nat) (σ : St) (a1 : Int32) (a2 : Int32) : ∀ r : Int32, p_Offering_bestFrom σ a1 a2 = some r → Ct l yX4_bestFrom cX4_bestFrom 4 (some .int) ({ frames := 0, cells := 0, slots := 0, locals := 0 } : Room) LC ω ad N [.ref (ω.2.1 6), .int a1, .int a2] σ (some (.int r)) σ (True) :=
  ct_of (o := fun r : Int32 => (some (.int r))) (s' := fun r => σ) (P := fun r => True) [some (.ref (ω.2.1 6)), some (.int a1), some (.int a2), none] (by decide) rfl (Nat.le_of_ble_eq_true rfl) (fun Γ C _ _ => w_p_Offering_bestFrom (Γ, ω, 4, ad, N, 0, 0) σ a1 a2 C)
theorem vw_X4_bestFrom : VW yX4_bestFrom cX4_bestFrom 4 (some .int) 2 := ⟨⟨(in_wt 86 (by decide +kernel) (by decide +kernel)), (in_wt 1032 (by decide +kernel) (by decide +kernel)), by decide +kernel⟩, (in_wt 1031 (by decide +kernel) (by decide +kernel)), (in_wt 26 (by decide +kernel) (by decide +kernel))⟩
theorem ml_X4_98 : Cond.methodLink RX4 98 yX4_bestFrom ∈ wt := in_wt 1029 (by decide +kernel) (by decide +kernel)
/-- PostsEnd$Offering.private int bestWith(int, int, int) -/
def p_Offering_bestWith (σ : St) (a1 : Int32) (a2 : Int32) (a3 : Int32) : Option Int32 := (if (a1 * (8 : Int32)) + a2 < 0 then some (-1 : Int32) else (if (a1 * (8 : Int32)) + a2 < (64 : Int32) then (Option.bind (ix 64 ((a1 * (8 : Int32)) + a2)) fun i1 => (if σ.1 0 30 i1 = 0 then some (-1 : Int32) else (if (a3 >>> (a2 &&& 31)) &&& (1 : Int32) = (1 : Int32) then some (-1 : Int32) else (Option.bind (ix 64 ((a1 * (8 : Int32)) + a2)) fun i2 => (Option.bind (p_Offering_bestFrom σ (a1 + (1 : Int32)) (a3 ||| ((1 : Int32) <<< (a2 &&& 31)))) fun r3 => some ((σ.1 0 30 i2) + r3)))))) else some (-1 : Int32)))
set_option maxRecDepth 20000 in
set_option maxHeartbeats 4000000 in
theorem w_p_Offering_bestWith (Θ : TT) (σ : St) (a1 : Int32) (a2 : Int32) (a3 : Int32) (C : CX Θ cX4_bestWith RX4 (some .int) ({ frames := 1, cells := 0, slots := 0, locals := 23 } : Room) 5) : WA LC Θ (fun r : Int32 => Qm LC Θ (some (.int r)) σ (True)) 0 [some (.ref (cF Θ 6)), some (.int a1), some (.int a2), some (.int a3), none] [] σ (p_Offering_bestWith σ a1 a2 a3) := by
  unfold p_Offering_bestWith
  refine r_iload_n C dX4_bestWith_0 rfl ?_
  refine r_bipush C (8 : Int32) dX4_bestWith_1 (by decide) ?_
  refine r_imul C dX4_bestWith_3 ?_
  refine r_iload_n C dX4_bestWith_4 rfl ?_
  refine r_iadd C dX4_bestWith_5 ?_
  refine r_istore C [some (.ref (cF Θ 6)), some (.int a1), some (.int a2), some (.int a3), some (.int ((a1 * (8 : Int32)) + a2))] dX4_bestWith_6 rfl (by decide) rfl ?_
  refine r_iload C dX4_bestWith_8 rfl ?_
  refine r_if_lt C 42 dX4_bestWith_10 (by decide) ?_ ?_
  · refine r_iconst C (-1 : Int32) dX4_bestWith_42 (by decide) ?_
    exact r_iret C dX4_bestWith_43 rfl rfl trivial
  · refine r_iload C dX4_bestWith_13 rfl ?_
    refine r_aload_n C dX4_bestWith_15 rfl ?_
    refine r_getF0 C dX4_bestWith_16 fg_X4_23 (by decide) ?_
    refine r_alen C (64 : Int32) dX4_bestWith_19 ag_LC_30 rfl ?_
    refine r_icmp_ge C 42 dX4_bestWith_20 (by decide) ?_ ?_
    · refine r_iconst C (-1 : Int32) dX4_bestWith_42 (by decide) ?_
      exact r_iret C dX4_bestWith_43 rfl rfl trivial
    · refine r_aload_n C dX4_bestWith_23 rfl ?_
      refine r_getF0 C dX4_bestWith_24 fg_X4_23 (by decide) ?_
      refine r_iload C dX4_bestWith_27 rfl ?_
      refine r_iald (α := Unit) C dX4_bestWith_29 ag_LC_30 (fun i1 => ?_)
      refine r_if_eq C 42 dX4_bestWith_30 (by decide) ?_ ?_
      · refine r_iconst C (-1 : Int32) dX4_bestWith_42 (by decide) ?_
        exact r_iret C dX4_bestWith_43 rfl rfl trivial
      · refine r_iload_n C dX4_bestWith_33 rfl ?_
        refine r_iload_n C dX4_bestWith_34 rfl ?_
        refine r_ishr C dX4_bestWith_35 ?_
        refine r_iconst C (1 : Int32) dX4_bestWith_36 (by decide) ?_
        refine r_iand C dX4_bestWith_37 ?_
        refine r_iconst C (1 : Int32) dX4_bestWith_38 (by decide) ?_
        refine r_icmp_ne C 44 dX4_bestWith_39 (by decide) ?_ ?_
        · refine r_aload_n C dX4_bestWith_44 rfl ?_
          refine r_getF0 C dX4_bestWith_45 fg_X4_23 (by decide) ?_
          refine r_iload C dX4_bestWith_48 rfl ?_
          refine r_iald (α := Unit) C dX4_bestWith_50 ag_LC_30 (fun i2 => ?_)
          refine r_aload_n C dX4_bestWith_51 rfl ?_
          refine r_iload_n C dX4_bestWith_52 rfl ?_
          refine r_iconst C (1 : Int32) dX4_bestWith_53 (by decide) ?_
          refine r_iadd C dX4_bestWith_54 ?_
          refine r_iload_n C dX4_bestWith_55 rfl ?_
          refine r_iconst C (1 : Int32) dX4_bestWith_56 (by decide) ?_
          refine r_iload_n C dX4_bestWith_57 rfl ?_
          refine r_ishl C dX4_bestWith_58 ?_
          refine r_ior C dX4_bestWith_59 ?_
          refine r_callV C (st := [.int (σ.1 0 30 i2)]) (As := [.int (a1 + (1 : Int32)), .int (a3 ||| ((1 : Int32) <<< (a2 &&& 31)))]) (d := 0) (j := 6) dX4_bestWith_60 ml_X4_98 vw_X4_bestFrom ⟨_, _, _, _, rfl, rfl⟩ (dm0 (by decide)) (fun r3 e => c_p_Offering_bestFrom Θ.1.2.1 (cW Θ) (cAd Θ) (cN Θ) σ (a1 + (1 : Int32)) (a3 ||| ((1 : Int32) <<< (a2 &&& 31))) r3 e) rfl rfl (Nat.le_of_ble_eq_true rfl) ⟨rfl, rfl, by decide, by decide⟩ (fun r3 h4 => ?_)
          refine r_iadd C dX4_bestWith_63 ?_
          exact r_iret C dX4_bestWith_64 rfl rfl trivial
        · refine r_iconst C (-1 : Int32) dX4_bestWith_42 (by decide) ?_
          exact r_iret C dX4_bestWith_43 rfl rfl trivial
theorem c_p_Offering_bestWith (l : Launch) (ω : Wd) (ad : Nat → Nat → Nat) (N : Nat → Nat) (σ : St) (a1 : Int32) (a2 : Int32) (a3 : Int32) : ∀ r : Int32, p_Offering_bestWith σ a1 a2 a3 = some r → Ct l yX4_bestWith cX4_bestWith 5 (some .int) ({ frames := 1, cells := 0, slots := 0, locals := 23 } : Room) LC ω ad N [.ref (ω.2.1 6), .int a1, .int a2, .int a3] σ (some (.int r)) σ (True) :=
  ct_of (o := fun r : Int32 => (some (.int r))) (s' := fun r => σ) (P := fun r => True) [some (.ref (ω.2.1 6)), some (.int a1), some (.int a2), some (.int a3), none] (by decide) rfl (Nat.le_of_ble_eq_true rfl) (fun Γ C _ _ => w_p_Offering_bestWith (Γ, ω, 5, ad, N, 0, 0) σ a1 a2 a3 C)
theorem vw_X4_bestWith : VW yX4_bestWith cX4_bestWith 5 (some .int) 3 := ⟨⟨(in_wt 86 (by decide +kernel) (by decide +kernel)), (in_wt 1036 (by decide +kernel) (by decide +kernel)), by decide +kernel⟩, (in_wt 1035 (by decide +kernel) (by decide +kernel)), (in_wt 27 (by decide +kernel) (by decide +kernel))⟩
theorem jw_X4_116 : JW RX4 116 Lib.Math.max.name Lib.Math.max.code 2 := ⟨in_wt 1037 (by decide +kernel) (by decide +kernel), in_wt 734 (by decide +kernel) (by decide +kernel), in_wt 94 (by decide +kernel) (by decide +kernel), in_wt 735 (by decide +kernel) (by decide +kernel)⟩
theorem ml_X4_112 : Cond.methodLink RX4 112 yX4_bestWith ∈ wt := in_wt 1033 (by decide +kernel) (by decide +kernel)
/-- PostsEnd$Offering.private void fillBest(int, int) -/
def p_Offering_fillBest (σ : St) (a1 : Int32) (a2 : Int32) : Option St := (Option.bind (p_Offering_bestFrom σ (a1 + (1 : Int32)) a2) fun r1 => (Option.bind (itr0 (S := Int32 × Int32) (E := Int32) (fun s3 => (if s3.2 < σ.1 0 6 6 then (Option.bind (p_Offering_bestWith σ a1 s3.2 a2) fun r13 => some (.inl (if s3.1 < r13 then r13 else s3.1, s3.2 + (1 : Int32)))) else some (.inr s3.1))) FU (r1, (0 : Int32))) fun e8 => (if (a1 * (256 : Int32)) + a2 < 0 then some σ else (if (a1 * (256 : Int32)) + a2 < (2304 : Int32) then (Option.bind (ix 2304 ((a1 * (256 : Int32)) + a2)) fun i11 => (lt1 (sx σ 0 31 i11 e8) fun σ12 => some σ12)) else some σ))))
set_option maxRecDepth 20000 in
set_option maxHeartbeats 4000000 in
theorem w_p_Offering_fillBest (Θ : TT) (σ : St) (a1 : Int32) (a2 : Int32) (C : CX Θ cX4_fillBest RX4 none ({ frames := 2, cells := 0, slots := 0, locals := 47 } : Room) 5) : WA LC Θ (fun r : St => Qm LC Θ none r (True)) 0 [some (.ref (cF Θ 6)), some (.int a1), some (.int a2), none, none] [] σ (p_Offering_fillBest σ a1 a2) := by
  unfold p_Offering_fillBest
  refine r_aload_n C dX4_fillBest_0 rfl ?_
  refine r_iload_n C dX4_fillBest_1 rfl ?_
  refine r_iconst C (1 : Int32) dX4_fillBest_2 (by decide) ?_
  refine r_iadd C dX4_fillBest_3 ?_
  refine r_iload_n C dX4_fillBest_4 rfl ?_
  refine r_callV C (st := []) (As := [.int (a1 + (1 : Int32)), .int a2]) (d := 0) (j := 6) dX4_fillBest_5 ml_X4_98 vw_X4_bestFrom ⟨_, _, _, _, rfl, rfl⟩ (dm0 (by decide)) (fun r1 e => c_p_Offering_bestFrom Θ.1.2.1 (cW Θ) (cAd Θ) (cN Θ) σ (a1 + (1 : Int32)) a2 r1 e) rfl rfl (Nat.le_of_ble_eq_true rfl) ⟨rfl, rfl, by decide, by decide⟩ (fun r1 h2 => ?_)
  refine r_istore_n C [some (.ref (cF Θ 6)), some (.int a1), some (.int a2), some (.int r1), none] dX4_fillBest_8 rfl (by decide) rfl ?_
  refine r_iconst C (0 : Int32) dX4_fillBest_9 (by decide) ?_
  refine r_istore C [some (.ref (cF Θ 6)), some (.int a1), some (.int a2), some (.int r1), some (.int (0 : Int32))] dX4_fillBest_10 rfl (by decide) rfl ?_
  refine WA.join (α := Int32) 40 (fun e8 => [some (.ref (cF Θ 6)), some (.int a1), some (.int a2), some (.int e8), none]) (fun e8 => []) (fun e8 => σ) (fun e8 => True) (fun e8 h9 => ?_) (fun J10 => ?_)
  · refine r_iload_n C dX4_fillBest_40 rfl ?_
    refine r_sipush C (256 : Int32) dX4_fillBest_41 (by decide) ?_
    refine r_imul C dX4_fillBest_44 ?_
    refine r_iload_n C dX4_fillBest_45 rfl ?_
    refine r_iadd C dX4_fillBest_46 ?_
    refine r_istore C [some (.ref (cF Θ 6)), some (.int a1), some (.int a2), some (.int e8), some (.int ((a1 * (256 : Int32)) + a2))] dX4_fillBest_47 rfl (by decide) rfl ?_
    refine r_iload C dX4_fillBest_49 rfl ?_
    refine r_if_lt C 72 dX4_fillBest_51 (by decide) ?_ ?_
    · exact r_vret C dX4_fillBest_72 rfl rfl trivial
    · refine r_iload C dX4_fillBest_54 rfl ?_
      refine r_aload_n C dX4_fillBest_56 rfl ?_
      refine r_getF0 C dX4_fillBest_57 fg_X4_27 (by decide) ?_
      refine r_alen C (2304 : Int32) dX4_fillBest_60 ag_LC_31 rfl ?_
      refine r_icmp_ge C 72 dX4_fillBest_61 (by decide) ?_ ?_
      · exact r_vret C dX4_fillBest_72 rfl rfl trivial
      · refine r_aload_n C dX4_fillBest_64 rfl ?_
        refine r_getF0 C dX4_fillBest_65 fg_X4_27 (by decide) ?_
        refine r_iload C dX4_fillBest_68 rfl ?_
        refine r_iload_n C dX4_fillBest_70 rfl ?_
        refine r_iast C dX4_fillBest_71 ag_LC_31 (fun i11 => ?_)
        refine WA.gen (fun σ12 => ?_)
        exact r_vret C dX4_fillBest_72 rfl rfl trivial
  · refine WA.wk (lv' := [some (.ref (cF Θ 6)), some (.int a1), some (.int a2), some (.int r1), some (.int (0 : Int32))]) [true, true, true, true, true] rfl ?_
    refine WA.itr (S := Int32 × Int32) 12 (fun s3 => [some (.ref (cF Θ 6)), some (.int a1), some (.int a2), some (.int s3.1), some (.int s3.2)]) (fun s3 => []) (fun s3 => σ) (fun s3 => True) (fun s3 k7 h4 ih5 hx6 => ?_) FU (r1, (0 : Int32)) trivial
    refine r_iload C dX4_fillBest_12 rfl ?_
    refine r_aload_n C dX4_fillBest_14 rfl ?_
    refine r_getI0 C dX4_fillBest_15 fg_X4_45 (by decide) ?_
    refine WA.bif ?_
    refine r_icmp_ge C 40 dX4_fillBest_18 (by decide) ?_ ?_
    · refine WA.wk (lv' := [some (.ref (cF Θ 6)), some (.int a1), some (.int a2), some (.int s3.1), none]) [true, true, true, true, false] rfl ?_
      exact WA.eqK (hx6 _) (J10 s3.1 trivial)
    · refine r_iload_n C dX4_fillBest_21 rfl ?_
      refine r_aload_n C dX4_fillBest_22 rfl ?_
      refine r_iload_n C dX4_fillBest_23 rfl ?_
      refine r_iload C dX4_fillBest_24 rfl ?_
      refine r_iload_n C dX4_fillBest_26 rfl ?_
      refine WA.asc ?_
      refine r_callV C (st := [.int s3.1]) (As := [.int a1, .int s3.2, .int a2]) (d := 0) (j := 6) dX4_fillBest_27 ml_X4_112 vw_X4_bestWith ⟨_, _, _, _, rfl, rfl⟩ (dm0 (by decide)) (fun r13 e => c_p_Offering_bestWith Θ.1.2.1 (cW Θ) (cAd Θ) (cN Θ) σ a1 s3.2 a2 r13 e) rfl rfl (Nat.le_of_ble_eq_true rfl) ⟨rfl, rfl, by decide, by decide⟩ (fun r13 h14 => ?_)
      refine r_mmax C dX4_fillBest_30 jw_X4_116 (by decide) (Nat.le_of_ble_eq_true rfl) ?_
      refine r_istore_n C [some (.ref (cF Θ 6)), some (.int a1), some (.int a2), some (.int (if s3.1 < r13 then r13 else s3.1)), some (.int s3.2)] dX4_fillBest_33 rfl (by decide) rfl ?_
      refine r_iinc C (1 : Int32) [some (.ref (cF Θ 6)), some (.int a1), some (.int a2), some (.int (if s3.1 < r13 then r13 else s3.1)), some (.int (s3.2 + (1 : Int32)))] dX4_fillBest_34 (by decide) rfl rfl (by decide) rfl ?_
      refine r_goto C 12 dX4_fillBest_37 (by decide) ?_
      refine WA.wk (lv' := [some (.ref (cF Θ 6)), some (.int a1), some (.int a2), some (.int (if s3.1 < r13 then r13 else s3.1)), some (.int (s3.2 + (1 : Int32)))]) [true, true, true, true, true] rfl ?_
      exact ih5 (if s3.1 < r13 then r13 else s3.1, s3.2 + (1 : Int32)) trivial
theorem c_p_Offering_fillBest (l : Launch) (ω : Wd) (ad : Nat → Nat → Nat) (N : Nat → Nat) (σ : St) (a1 : Int32) (a2 : Int32) : ∀ r : St, p_Offering_fillBest σ a1 a2 = some r → Ct l yX4_fillBest cX4_fillBest 5 none ({ frames := 2, cells := 0, slots := 0, locals := 47 } : Room) LC ω ad N [.ref (ω.2.1 6), .int a1, .int a2] σ none r (True) :=
  ct_of (o := fun r : St => none) (s' := fun r => r) (P := fun r => True) [some (.ref (ω.2.1 6)), some (.int a1), some (.int a2), none, none] (by decide) rfl (Nat.le_of_ble_eq_true rfl) (fun Γ C _ _ => w_p_Offering_fillBest (Γ, ω, 5, ad, N, 0, 0) σ a1 a2 C)
theorem vw_X4_fillBest : VW yX4_fillBest cX4_fillBest 5 none 2 := ⟨⟨(in_wt 86 (by decide +kernel) (by decide +kernel)), (in_wt 1028 (by decide +kernel) (by decide +kernel)), by decide +kernel⟩, (in_wt 1027 (by decide +kernel) (by decide +kernel)), (in_wt 25 (by decide +kernel) (by decide +kernel))⟩
theorem ml_X4_102 : Cond.methodLink RX4 102 yJ6_bitCount_0f7a4 ∈ wt := in_wt 1024 (by decide +kernel) (by decide +kernel)
theorem ml_X4_108 : Cond.methodLink RX4 108 yX4_fillBest ∈ wt := in_wt 1025 (by decide +kernel) (by decide +kernel)
/-- PostsEnd$Offering.private void fillRow(int) -/
def p_Offering_fillRow (σ : St) (a1 : Int32) : Option St := (Option.bind (itr0 (S := Int32 × St) (E := St) (fun s1 => (if s1.1 < (1 : Int32) <<< ((s1.2.1 0 6 6) &&& 31) then (Option.bind (j_Integer_bitCount s1.1) fun r9 => (Option.bind (α := St) ((if a1 < r9 then some s1.2 else (Option.bind (p_Offering_fillBest s1.2 a1 s1.1) fun r14 => some r14))) fun t11 => some (.inl (s1.1 + (1 : Int32), t11)))) else some (.inr s1.2))) FU ((0 : Int32), σ)) fun e6 => some e6)
set_option maxRecDepth 20000 in
set_option maxHeartbeats 4000000 in
theorem w_p_Offering_fillRow (Θ : TT) (σ : St) (a1 : Int32) (C : CX Θ cX4_fillRow RX4 none ({ frames := 3, cells := 0, slots := 0, locals := 71 } : Room) 3) : WA LC Θ (fun r : St => Qm LC Θ none r (True)) 0 [some (.ref (cF Θ 6)), some (.int a1), none] [] σ (p_Offering_fillRow σ a1) := by
  unfold p_Offering_fillRow
  refine r_iconst C (0 : Int32) dX4_fillRow_0 (by decide) ?_
  refine r_istore_n C [some (.ref (cF Θ 6)), some (.int a1), some (.int (0 : Int32))] dX4_fillRow_1 rfl (by decide) rfl ?_
  refine WA.join (α := St) 32 (fun e6 => [none, none, none]) (fun e6 => []) (fun e6 => e6) (fun e6 => True) (fun e6 h7 => ?_) (fun J8 => ?_)
  · exact r_vret C dX4_fillRow_32 rfl rfl trivial
  · refine WA.wk (lv' := [some (.ref (cF Θ 6)), some (.int a1), some (.int (0 : Int32))]) [true, true, true] rfl ?_
    refine WA.itr (S := Int32 × St) 2 (fun s1 => [some (.ref (cF Θ 6)), some (.int a1), some (.int s1.1)]) (fun s1 => []) (fun s1 => s1.2) (fun s1 => True) (fun s1 k5 h2 ih3 hx4 => ?_) FU ((0 : Int32), σ) trivial
    refine r_iload_n C dX4_fillRow_2 rfl ?_
    refine r_iconst C (1 : Int32) dX4_fillRow_3 (by decide) ?_
    refine r_aload_n C dX4_fillRow_4 rfl ?_
    refine r_getI0 C dX4_fillRow_5 fg_X4_45 (by decide) ?_
    refine r_ishl C dX4_fillRow_8 ?_
    refine WA.bif ?_
    refine r_icmp_ge C 32 dX4_fillRow_9 (by decide) ?_ ?_
    · refine WA.wk (lv' := [none, none, none]) [false, false, false] rfl ?_
      exact WA.eqK (hx4 _) (J8 s1.2 trivial)
    · refine r_iload_n C dX4_fillRow_12 rfl ?_
      refine WA.asc ?_
      refine r_callS C (st := []) (As := [.int s1.1]) dX4_fillRow_13 ml_X4_102 sw_J6_bitCount_0f7a4 (fun r9 e => c_j_Integer_bitCount Θ.1.2.1 (cW Θ) (cAd Θ) (cN Θ) s1.2 s1.1 r9 e) rfl rfl (Nat.le_of_ble_eq_true rfl) ⟨rfl, rfl, by decide, by decide⟩ (fun r9 h10 => ?_)
      refine r_iload_n C dX4_fillRow_16 rfl ?_
      refine WA.asc ?_
      refine WA.join (α := St) 26 (fun t11 => [some (.ref (cF Θ 6)), some (.int a1), some (.int s1.1)]) (fun t11 => []) (fun t11 => t11) (fun t11 => True) (fun t11 h12 => ?_) (fun J13 => ?_)
      · refine r_iinc C (1 : Int32) [some (.ref (cF Θ 6)), some (.int a1), some (.int (s1.1 + (1 : Int32)))] dX4_fillRow_26 (by decide) rfl rfl (by decide) rfl ?_
        refine r_goto C 2 dX4_fillRow_29 (by decide) ?_
        refine WA.wk (lv' := [some (.ref (cF Θ 6)), some (.int a1), some (.int (s1.1 + (1 : Int32)))]) [true, true, true] rfl ?_
        exact ih3 (s1.1 + (1 : Int32), t11) trivial
      · refine WA.bif ?_
        refine r_icmp_gt C 26 dX4_fillRow_17 (by decide) ?_ ?_
        · refine WA.wk (lv' := [some (.ref (cF Θ 6)), some (.int a1), some (.int s1.1)]) [true, true, true] rfl ?_
          exact J13 s1.2 trivial
        · refine r_aload_n C dX4_fillRow_20 rfl ?_
          refine r_iload_n C dX4_fillRow_21 rfl ?_
          refine r_iload_n C dX4_fillRow_22 rfl ?_
          refine WA.asc ?_
          refine r_callV C (st := []) (As := [.int a1, .int s1.1]) (d := 0) (j := 6) dX4_fillRow_23 ml_X4_108 vw_X4_fillBest ⟨_, _, _, _, rfl, rfl⟩ (dm0 (by decide)) (fun r14 e => c_p_Offering_fillBest Θ.1.2.1 (cW Θ) (cAd Θ) (cN Θ) s1.2 a1 s1.1 r14 e) rfl rfl (Nat.le_of_ble_eq_true rfl) ⟨rfl, rfl, by decide, by decide⟩ (fun r14 h15 => ?_)
          refine WA.wk (lv' := [some (.ref (cF Θ 6)), some (.int a1), some (.int s1.1)]) [true, true, true] rfl ?_
          exact J13 r14 trivial
theorem c_p_Offering_fillRow (l : Launch) (ω : Wd) (ad : Nat → Nat → Nat) (N : Nat → Nat) (σ : St) (a1 : Int32) : ∀ r : St, p_Offering_fillRow σ a1 = some r → Ct l yX4_fillRow cX4_fillRow 3 none ({ frames := 3, cells := 0, slots := 0, locals := 71 } : Room) LC ω ad N [.ref (ω.2.1 6), .int a1] σ none r (True) :=
  ct_of (o := fun r : St => none) (s' := fun r => r) (P := fun r => True) [some (.ref (ω.2.1 6)), some (.int a1), none] (by decide) rfl (Nat.le_of_ble_eq_true rfl) (fun Γ C _ _ => w_p_Offering_fillRow (Γ, ω, 3, ad, N, 0, 0) σ a1 C)
