/-- PostsEndModel.private static boolean in(int, int, int) -/
def m_in (a0 : Int32) (a1 : Int32) (a2 : Int32) : Option Int32 := (if a0 < a1 then some (0 : Int32) else (if a2 < a0 then some (0 : Int32) else some (1 : Int32)))
set_option maxRecDepth 20000 in
set_option maxHeartbeats 4000000 in
theorem w_m_in (Θ : TT) (σ : St) (a0 : Int32) (a1 : Int32) (a2 : Int32) (C : CX Θ cX12_in RX12 (some .boolean) ({ frames := 0, cells := 0, slots := 0, locals := 0 } : Room) 3) : WA LM Θ (fun r : Int32 => Qm LM Θ (some (.int r)) σ (narrow .boolean (.int r) = .int r)) 0 [some (.int a0), some (.int a1), some (.int a2)] [] σ (m_in a0 a1 a2) := by
  unfold m_in
  refine r_iload_n C dX12_in_0 rfl ?_
  refine r_iload_n C dX12_in_1 rfl ?_
  refine r_icmp_lt C 14 dX12_in_2 (by decide) ?_ ?_
  · refine r_iconst C (0 : Int32) dX12_in_14 (by decide) ?_
    exact r_zret C dX12_in_15 (show narrow .boolean (.int (0 : Int32)) = .int (0 : Int32) from rfl) rfl rfl (show narrow .boolean (.int (0 : Int32)) = .int (0 : Int32) from rfl)
  · refine r_iload_n C dX12_in_5 rfl ?_
    refine r_iload_n C dX12_in_6 rfl ?_
    refine r_icmp_gt C 14 dX12_in_7 (by decide) ?_ ?_
    · refine r_iconst C (0 : Int32) dX12_in_14 (by decide) ?_
      exact r_zret C dX12_in_15 (show narrow .boolean (.int (0 : Int32)) = .int (0 : Int32) from rfl) rfl rfl (show narrow .boolean (.int (0 : Int32)) = .int (0 : Int32) from rfl)
    · refine r_iconst C (1 : Int32) dX12_in_10 (by decide) ?_
      refine r_goto C 15 dX12_in_11 (by decide) ?_
      exact r_zret C dX12_in_15 (show narrow .boolean (.int (1 : Int32)) = .int (1 : Int32) from rfl) rfl rfl (show narrow .boolean (.int (1 : Int32)) = .int (1 : Int32) from rfl)
theorem c_m_in (l : Launch) (ω : Wd) (ad : Nat → Nat → Nat) (N : Nat → Nat) (σ : St) (a0 : Int32) (a1 : Int32) (a2 : Int32) : ∀ r : Int32, m_in a0 a1 a2 = some r → Ct l yX12_in cX12_in 3 (some .boolean) ({ frames := 0, cells := 0, slots := 0, locals := 0 } : Room) LM ω ad N [.int a0, .int a1, .int a2] σ (some (.int r)) σ (narrow .boolean (.int r) = .int r) :=
  ct_of (o := fun r : Int32 => (some (.int r))) (s' := fun r => σ) (P := fun r => narrow .boolean (.int r) = .int r) [some (.int a0), some (.int a1), some (.int a2)] (by decide) rfl (Nat.le_of_ble_eq_true rfl) (fun Γ C _ _ => w_m_in (Γ, ω, 3, ad, N, 0, 0) σ a0 a1 a2 C)
theorem ag_LM_18 : AG LM 18 0 7 := ⟨by decide, rfl⟩
theorem fg_X12_68 : FG LM RX12 68 0 0 24 (1, 18) := ⟨_, _, _, _, _, rfl, rfl, rfl, by decide, uw_X12, (in_wt 1258 (by decide +kernel) (by decide +kernel))⟩
/-- PostsEndModel.private int refuse(int) -/
def m_refuse (σ : St) (a1 : Int32) : Option (Int32 × St) := (Option.bind (ix 7 (-a1)) fun i1 => (Option.bind (ix 7 (-a1)) fun i2 => (lt1 (sx σ 0 18 i2 ((σ.1 0 18 i1) + (1 : Int32))) fun σ3 => some (a1, σ3))))
set_option maxRecDepth 20000 in
set_option maxHeartbeats 4000000 in
theorem w_m_refuse (Θ : TT) (σ : St) (a1 : Int32) (C : CX Θ cX12_refuse RX12 (some .int) ({ frames := 0, cells := 0, slots := 0, locals := 0 } : Room) 2) : WA LM Θ (fun r : Int32 × St => Qm LM Θ (some (.int r.1)) r.2 (True)) 0 [some (.ref (cF Θ 0)), some (.int a1)] [] σ (m_refuse σ a1) := by
  unfold m_refuse
  refine r_aload_n C dX12_refuse_0 rfl ?_
  refine r_getF0 C dX12_refuse_1 fg_X12_68 (by decide) ?_
  refine r_iload_n C dX12_refuse_4 rfl ?_
  refine r_ineg C dX12_refuse_5 ?_
  refine r_dup2 C dX12_refuse_6 rfl rfl ?_
  refine r_iald (α := Unit) C dX12_refuse_7 ag_LM_18 (fun i1 => ?_)
  refine r_iconst C (1 : Int32) dX12_refuse_8 (by decide) ?_
  refine r_iadd C dX12_refuse_9 ?_
  refine r_iast C dX12_refuse_10 ag_LM_18 (fun i2 => ?_)
  refine WA.gen (fun σ3 => ?_)
  refine r_iload_n C dX12_refuse_11 rfl ?_
  exact r_iret C dX12_refuse_12 rfl rfl trivial
theorem c_m_refuse (l : Launch) (ω : Wd) (ad : Nat → Nat → Nat) (N : Nat → Nat) (σ : St) (a1 : Int32) : ∀ r : Int32 × St, m_refuse σ a1 = some r → Ct l yX12_refuse cX12_refuse 2 (some .int) ({ frames := 0, cells := 0, slots := 0, locals := 0 } : Room) LM ω ad N [.ref (ω.2.1 0), .int a1] σ (some (.int r.1)) r.2 (True) :=
  ct_of (o := fun r : Int32 × St => (some (.int r.1))) (s' := fun r => r.2) (P := fun r => True) [some (.ref (ω.2.1 0)), some (.int a1)] (by decide) rfl (Nat.le_of_ble_eq_true rfl) (fun Γ C _ _ => w_m_refuse (Γ, ω, 2, ad, N, 0, 0) σ a1 C)
theorem kc_X12_153 : Cond.constant RX12 153 (1000000000) ∈ wt := in_wt 1497 (by decide +kernel) (by decide +kernel)
/-- PostsEndModel.private int refuseFar(int) -/
def m_refuseFar (σ : St) (a1 : Int32) : Option (Int32 × St) := (Option.bind (ix 7 (-a1)) fun i1 => (Option.bind (ix 7 (-a1)) fun i2 => (lt1 (sx σ 0 18 i2 ((σ.1 0 18 i1) + (1 : Int32))) fun σ3 => some ((1000000000 : Int32) - a1, σ3))))
set_option maxRecDepth 20000 in
set_option maxHeartbeats 4000000 in
theorem w_m_refuseFar (Θ : TT) (σ : St) (a1 : Int32) (C : CX Θ cX12_refuseFar RX12 (some .int) ({ frames := 0, cells := 0, slots := 0, locals := 0 } : Room) 2) : WA LM Θ (fun r : Int32 × St => Qm LM Θ (some (.int r.1)) r.2 (True)) 0 [some (.ref (cF Θ 0)), some (.int a1)] [] σ (m_refuseFar σ a1) := by
  unfold m_refuseFar
  refine r_aload_n C dX12_refuseFar_0 rfl ?_
  refine r_getF0 C dX12_refuseFar_1 fg_X12_68 (by decide) ?_
  refine r_iload_n C dX12_refuseFar_4 rfl ?_
  refine r_ineg C dX12_refuseFar_5 ?_
  refine r_dup2 C dX12_refuseFar_6 rfl rfl ?_
  refine r_iald (α := Unit) C dX12_refuseFar_7 ag_LM_18 (fun i1 => ?_)
  refine r_iconst C (1 : Int32) dX12_refuseFar_8 (by decide) ?_
  refine r_iadd C dX12_refuseFar_9 ?_
  refine r_iast C dX12_refuseFar_10 ag_LM_18 (fun i2 => ?_)
  refine WA.gen (fun σ3 => ?_)
  refine r_ldc C dX12_refuseFar_11 kc_X12_153 ?_
  refine r_iload_n C dX12_refuseFar_13 rfl ?_
  refine r_isub C dX12_refuseFar_14 ?_
  exact r_iret C dX12_refuseFar_15 rfl rfl trivial
theorem c_m_refuseFar (l : Launch) (ω : Wd) (ad : Nat → Nat → Nat) (N : Nat → Nat) (σ : St) (a1 : Int32) : ∀ r : Int32 × St, m_refuseFar σ a1 = some r → Ct l yX12_refuseFar cX12_refuseFar 2 (some .int) ({ frames := 0, cells := 0, slots := 0, locals := 0 } : Room) LM ω ad N [.ref (ω.2.1 0), .int a1] σ (some (.int r.1)) r.2 (True) :=
  ct_of (o := fun r : Int32 × St => (some (.int r.1))) (s' := fun r => r.2) (P := fun r => True) [some (.ref (ω.2.1 0)), some (.int a1)] (by decide) rfl (Nat.le_of_ble_eq_true rfl) (fun Γ C _ _ => w_m_refuseFar (Γ, ω, 2, ad, N, 0, 0) σ a1 C)
/-- PostsEndModel.private static int ones(int) -/
def m_ones (a0 : Int32) : Option Int32 := (Option.bind (itr0 (S := Int32 × Int32) (E := Int32) (fun s1 => (if 0 < s1.2 then some (.inl (s1.1 + (s1.2 - s1.2 / (2 : Int32) * (2 : Int32)), s1.2 / (2 : Int32))) else some (.inr s1.1))) FU ((0 : Int32), a0)) fun e6 => some e6)
set_option maxRecDepth 20000 in
set_option maxHeartbeats 4000000 in
theorem w_m_ones (Θ : TT) (σ : St) (a0 : Int32) (C : CX Θ cX12_ones RX12 (some .int) ({ frames := 0, cells := 0, slots := 0, locals := 0 } : Room) 3) : WA LM Θ (fun r : Int32 => Qm LM Θ (some (.int r)) σ (True)) 0 [some (.int a0), none, none] [] σ (m_ones a0) := by
  unfold m_ones
  refine r_iconst C (0 : Int32) dX12_ones_0 (by decide) ?_
  refine r_istore_n C [some (.int a0), some (.int (0 : Int32)), none] dX12_ones_1 rfl (by decide) rfl ?_
  refine r_iload_n C dX12_ones_2 rfl ?_
  refine r_istore_n C [some (.int a0), some (.int (0 : Int32)), some (.int a0)] dX12_ones_3 rfl (by decide) rfl ?_
  refine WA.join (α := Int32) 21 (fun e6 => [none, some (.int e6), none]) (fun e6 => []) (fun e6 => σ) (fun e6 => True) (fun e6 h7 => ?_) (fun J8 => ?_)
  · refine r_iload_n C dX12_ones_21 rfl ?_
    exact r_iret C dX12_ones_22 rfl rfl trivial
  · refine WA.wk (lv' := [none, some (.int (0 : Int32)), some (.int a0)]) [false, true, true] rfl ?_
    refine WA.itr (S := Int32 × Int32) 4 (fun s1 => [none, some (.int s1.1), some (.int s1.2)]) (fun s1 => []) (fun s1 => σ) (fun s1 => True) (fun s1 k5 h2 ih3 hx4 => ?_) FU ((0 : Int32), a0) trivial
    refine r_iload_n C dX12_ones_4 rfl ?_
    refine WA.bif ?_
    refine r_if_le C 21 dX12_ones_5 (by decide) ?_ ?_
    · refine WA.wk (lv' := [none, some (.int s1.1), none]) [false, true, false] rfl ?_
      exact WA.eqK (hx4 _) (J8 s1.1 trivial)
    · refine r_iload_n C dX12_ones_8 rfl ?_
      refine r_iload_n C dX12_ones_9 rfl ?_
      refine r_iconst C (2 : Int32) dX12_ones_10 (by decide) ?_
      refine r_iremc C dX12_ones_11 (by decide) ?_
      refine r_iadd C dX12_ones_12 ?_
      refine r_istore_n C [none, some (.int (s1.1 + (s1.2 - s1.2 / (2 : Int32) * (2 : Int32)))), some (.int s1.2)] dX12_ones_13 rfl (by decide) rfl ?_
      refine r_iload_n C dX12_ones_14 rfl ?_
      refine r_iconst C (2 : Int32) dX12_ones_15 (by decide) ?_
      refine r_idivc C dX12_ones_16 (by decide) ?_
      refine r_istore_n C [none, some (.int (s1.1 + (s1.2 - s1.2 / (2 : Int32) * (2 : Int32)))), some (.int (s1.2 / (2 : Int32)))] dX12_ones_17 rfl (by decide) rfl ?_
      refine r_goto C 4 dX12_ones_18 (by decide) ?_
      refine WA.wk (lv' := [none, some (.int (s1.1 + (s1.2 - s1.2 / (2 : Int32) * (2 : Int32)))), some (.int (s1.2 / (2 : Int32)))]) [false, true, true] rfl ?_
      exact ih3 (s1.1 + (s1.2 - s1.2 / (2 : Int32) * (2 : Int32)), s1.2 / (2 : Int32)) trivial
theorem c_m_ones (l : Launch) (ω : Wd) (ad : Nat → Nat → Nat) (N : Nat → Nat) (σ : St) (a0 : Int32) : ∀ r : Int32, m_ones a0 = some r → Ct l yX12_ones cX12_ones 3 (some .int) ({ frames := 0, cells := 0, slots := 0, locals := 0 } : Room) LM ω ad N [.int a0] σ (some (.int r)) σ (True) :=
  ct_of (o := fun r : Int32 => (some (.int r))) (s' := fun r => σ) (P := fun r => True) [some (.int a0), none, none] (by decide) rfl (Nat.le_of_ble_eq_true rfl) (fun Γ C _ _ => w_m_ones (Γ, ω, 3, ad, N, 0, 0) σ a0 C)
theorem sw_X12_in : SW yX12_in cX12_in 3 (some .boolean) 3 := ⟨⟨(in_wt 88 (by decide +kernel) (by decide +kernel)), (in_wt 1448 (by decide +kernel) (by decide +kernel)), by decide +kernel⟩, (in_wt 1447 (by decide +kernel) (by decide +kernel))⟩
theorem fg_X12_154 : FG LM RX12 154 0 0 1 (0, 0) := ⟨_, _, _, _, _, rfl, rfl, rfl, by decide, uw_X12, (in_wt 1235 (by decide +kernel) (by decide +kernel))⟩
theorem ml_X12_157 : Cond.methodLink RX12 157 yX12_in ∈ wt := in_wt 1446 (by decide +kernel) (by decide +kernel)
/-- PostsEndModel.private boolean isUnit(int) -/
def m_isUnit (σ : St) (a1 : Int32) : Option Int32 := (Option.bind (m_in a1 (0 : Int32) ((σ.1 0 0 1) - (1 : Int32))) fun r1 => some r1)
set_option maxRecDepth 20000 in
set_option maxHeartbeats 4000000 in
theorem w_m_isUnit (Θ : TT) (σ : St) (a1 : Int32) (C : CX Θ cX12_isUnit RX12 (some .boolean) ({ frames := 1, cells := 0, slots := 0, locals := 22 } : Room) 2) : WA LM Θ (fun r : Int32 => Qm LM Θ (some (.int r)) σ (narrow .boolean (.int r) = .int r)) 0 [some (.ref (cF Θ 0)), some (.int a1)] [] σ (m_isUnit σ a1) := by
  unfold m_isUnit
  refine r_iload_n C dX12_isUnit_0 rfl ?_
  refine r_iconst C (0 : Int32) dX12_isUnit_1 (by decide) ?_
  refine r_aload_n C dX12_isUnit_2 rfl ?_
  refine r_getI0 C dX12_isUnit_3 fg_X12_154 (by decide) ?_
  refine r_iconst C (1 : Int32) dX12_isUnit_6 (by decide) ?_
  refine r_isub C dX12_isUnit_7 ?_
  refine r_callS C (st := []) (As := [.int a1, .int (0 : Int32), .int ((σ.1 0 0 1) - (1 : Int32))]) dX12_isUnit_8 ml_X12_157 sw_X12_in (fun r1 e => c_m_in Θ.1.2.1 (cW Θ) (cAd Θ) (cN Θ) σ a1 (0 : Int32) ((σ.1 0 0 1) - (1 : Int32)) r1 e) rfl rfl (Nat.le_of_ble_eq_true rfl) ⟨rfl, rfl, by decide, by decide⟩ (fun r1 h2 => ?_)
  exact r_zret C dX12_isUnit_11 h2 rfl rfl h2
theorem c_m_isUnit (l : Launch) (ω : Wd) (ad : Nat → Nat → Nat) (N : Nat → Nat) (σ : St) (a1 : Int32) : ∀ r : Int32, m_isUnit σ a1 = some r → Ct l yX12_isUnit cX12_isUnit 2 (some .boolean) ({ frames := 1, cells := 0, slots := 0, locals := 22 } : Room) LM ω ad N [.ref (ω.2.1 0), .int a1] σ (some (.int r)) σ (narrow .boolean (.int r) = .int r) :=
  ct_of (o := fun r : Int32 => (some (.int r))) (s' := fun r => σ) (P := fun r => narrow .boolean (.int r) = .int r) [some (.ref (ω.2.1 0)), some (.int a1)] (by decide) rfl (Nat.le_of_ble_eq_true rfl) (fun Γ C _ _ => w_m_isUnit (Γ, ω, 2, ad, N, 0, 0) σ a1 C)
theorem fg_X12_161 : FG LM RX12 161 0 0 4 (0, 0) := ⟨_, _, _, _, _, rfl, rfl, rfl, by decide, uw_X12, (in_wt 1238 (by decide +kernel) (by decide +kernel))⟩
/-- PostsEndModel.private boolean isPost(int) -/
def m_isPost (σ : St) (a1 : Int32) : Option Int32 := (Option.bind (m_in a1 (0 : Int32) ((σ.1 0 0 4) - (1 : Int32))) fun r1 => some r1)
set_option maxRecDepth 20000 in
set_option maxHeartbeats 4000000 in
theorem w_m_isPost (Θ : TT) (σ : St) (a1 : Int32) (C : CX Θ cX12_isPost RX12 (some .boolean) ({ frames := 1, cells := 0, slots := 0, locals := 22 } : Room) 2) : WA LM Θ (fun r : Int32 => Qm LM Θ (some (.int r)) σ (narrow .boolean (.int r) = .int r)) 0 [some (.ref (cF Θ 0)), some (.int a1)] [] σ (m_isPost σ a1) := by
  unfold m_isPost
  refine r_iload_n C dX12_isPost_0 rfl ?_
  refine r_iconst C (0 : Int32) dX12_isPost_1 (by decide) ?_
  refine r_aload_n C dX12_isPost_2 rfl ?_
  refine r_getI0 C dX12_isPost_3 fg_X12_161 (by decide) ?_
  refine r_iconst C (1 : Int32) dX12_isPost_6 (by decide) ?_
  refine r_isub C dX12_isPost_7 ?_
  refine r_callS C (st := []) (As := [.int a1, .int (0 : Int32), .int ((σ.1 0 0 4) - (1 : Int32))]) dX12_isPost_8 ml_X12_157 sw_X12_in (fun r1 e => c_m_in Θ.1.2.1 (cW Θ) (cAd Θ) (cN Θ) σ a1 (0 : Int32) ((σ.1 0 0 4) - (1 : Int32)) r1 e) rfl rfl (Nat.le_of_ble_eq_true rfl) ⟨rfl, rfl, by decide, by decide⟩ (fun r1 h2 => ?_)
  exact r_zret C dX12_isPost_11 h2 rfl rfl h2
theorem c_m_isPost (l : Launch) (ω : Wd) (ad : Nat → Nat → Nat) (N : Nat → Nat) (σ : St) (a1 : Int32) : ∀ r : Int32, m_isPost σ a1 = some r → Ct l yX12_isPost cX12_isPost 2 (some .boolean) ({ frames := 1, cells := 0, slots := 0, locals := 22 } : Room) LM ω ad N [.ref (ω.2.1 0), .int a1] σ (some (.int r)) σ (narrow .boolean (.int r) = .int r) :=
  ct_of (o := fun r : Int32 => (some (.int r))) (s' := fun r => σ) (P := fun r => narrow .boolean (.int r) = .int r) [some (.ref (ω.2.1 0)), some (.int a1)] (by decide) rfl (Nat.le_of_ble_eq_true rfl) (fun Γ C _ _ => w_m_isPost (Γ, ω, 2, ad, N, 0, 0) σ a1 C)
theorem fg_X12_164 : FG LM RX12 164 0 0 11 (0, 0) := ⟨_, _, _, _, _, rfl, rfl, rfl, by decide, uw_X12, (in_wt 1245 (by decide +kernel) (by decide +kernel))⟩
/-- PostsEndModel.private boolean isPerson(int) -/
def m_isPerson (σ : St) (a1 : Int32) : Option Int32 := (Option.bind (m_in a1 (0 : Int32) ((σ.1 0 0 11) - (1 : Int32))) fun r1 => some r1)
set_option maxRecDepth 20000 in
set_option maxHeartbeats 4000000 in
theorem w_m_isPerson (Θ : TT) (σ : St) (a1 : Int32) (C : CX Θ cX12_isPerson RX12 (some .boolean) ({ frames := 1, cells := 0, slots := 0, locals := 22 } : Room) 2) : WA LM Θ (fun r : Int32 => Qm LM Θ (some (.int r)) σ (narrow .boolean (.int r) = .int r)) 0 [some (.ref (cF Θ 0)), some (.int a1)] [] σ (m_isPerson σ a1) := by
  unfold m_isPerson
  refine r_iload_n C dX12_isPerson_0 rfl ?_
  refine r_iconst C (0 : Int32) dX12_isPerson_1 (by decide) ?_
  refine r_aload_n C dX12_isPerson_2 rfl ?_
  refine r_getI0 C dX12_isPerson_3 fg_X12_164 (by decide) ?_
  refine r_iconst C (1 : Int32) dX12_isPerson_6 (by decide) ?_
  refine r_isub C dX12_isPerson_7 ?_
  refine r_callS C (st := []) (As := [.int a1, .int (0 : Int32), .int ((σ.1 0 0 11) - (1 : Int32))]) dX12_isPerson_8 ml_X12_157 sw_X12_in (fun r1 e => c_m_in Θ.1.2.1 (cW Θ) (cAd Θ) (cN Θ) σ a1 (0 : Int32) ((σ.1 0 0 11) - (1 : Int32)) r1 e) rfl rfl (Nat.le_of_ble_eq_true rfl) ⟨rfl, rfl, by decide, by decide⟩ (fun r1 h2 => ?_)
  exact r_zret C dX12_isPerson_11 h2 rfl rfl h2
theorem c_m_isPerson (l : Launch) (ω : Wd) (ad : Nat → Nat → Nat) (N : Nat → Nat) (σ : St) (a1 : Int32) : ∀ r : Int32, m_isPerson σ a1 = some r → Ct l yX12_isPerson cX12_isPerson 2 (some .boolean) ({ frames := 1, cells := 0, slots := 0, locals := 22 } : Room) LM ω ad N [.ref (ω.2.1 0), .int a1] σ (some (.int r)) σ (narrow .boolean (.int r) = .int r) :=
  ct_of (o := fun r : Int32 => (some (.int r))) (s' := fun r => σ) (P := fun r => narrow .boolean (.int r) = .int r) [some (.ref (ω.2.1 0)), some (.int a1)] (by decide) rfl (Nat.le_of_ble_eq_true rfl) (fun Γ C _ _ => w_m_isPerson (Γ, ω, 2, ad, N, 0, 0) σ a1 C)
theorem ag_LM_14 : AG LM 14 0 40 := ⟨by decide, rfl⟩
theorem fg_X12_49 : FG LM RX12 49 0 0 17 (1, 14) := ⟨_, _, _, _, _, rfl, rfl, rfl, by decide, uw_X12, (in_wt 1251 (by decide +kernel) (by decide +kernel))⟩
/-- PostsEndModel.private boolean isHere(int) -/
def m_isHere (σ : St) (a1 : Int32) : Option Int32 := (Option.bind (ix 40 a1) fun i1 => (if σ.1 0 14 i1 < 0 then some (1 : Int32) else some (0 : Int32)))
set_option maxRecDepth 20000 in
set_option maxHeartbeats 4000000 in
theorem w_m_isHere (Θ : TT) (σ : St) (a1 : Int32) (C : CX Θ cX12_isHere RX12 (some .boolean) ({ frames := 0, cells := 0, slots := 0, locals := 0 } : Room) 2) : WA LM Θ (fun r : Int32 => Qm LM Θ (some (.int r)) σ (narrow .boolean (.int r) = .int r)) 0 [some (.ref (cF Θ 0)), some (.int a1)] [] σ (m_isHere σ a1) := by
  unfold m_isHere
  refine r_aload_n C dX12_isHere_0 rfl ?_
  refine r_getF0 C dX12_isHere_1 fg_X12_49 (by decide) ?_
  refine r_iload_n C dX12_isHere_4 rfl ?_
  refine r_iald (α := Unit) C dX12_isHere_5 ag_LM_14 (fun i1 => ?_)
  refine r_if_ge C 13 dX12_isHere_6 (by decide) ?_ ?_
  · refine r_iconst C (0 : Int32) dX12_isHere_13 (by decide) ?_
    exact r_zret C dX12_isHere_14 (show narrow .boolean (.int (0 : Int32)) = .int (0 : Int32) from rfl) rfl rfl (show narrow .boolean (.int (0 : Int32)) = .int (0 : Int32) from rfl)
  · refine r_iconst C (1 : Int32) dX12_isHere_9 (by decide) ?_
    refine r_goto C 14 dX12_isHere_10 (by decide) ?_
    exact r_zret C dX12_isHere_14 (show narrow .boolean (.int (1 : Int32)) = .int (1 : Int32) from rfl) rfl rfl (show narrow .boolean (.int (1 : Int32)) = .int (1 : Int32) from rfl)
theorem c_m_isHere (l : Launch) (ω : Wd) (ad : Nat → Nat → Nat) (N : Nat → Nat) (σ : St) (a1 : Int32) : ∀ r : Int32, m_isHere σ a1 = some r → Ct l yX12_isHere cX12_isHere 2 (some .boolean) ({ frames := 0, cells := 0, slots := 0, locals := 0 } : Room) LM ω ad N [.ref (ω.2.1 0), .int a1] σ (some (.int r)) σ (narrow .boolean (.int r) = .int r) :=
  ct_of (o := fun r : Int32 => (some (.int r))) (s' := fun r => σ) (P := fun r => narrow .boolean (.int r) = .int r) [some (.ref (ω.2.1 0)), some (.int a1)] (by decide) rfl (Nat.le_of_ble_eq_true rfl) (fun Γ C _ _ => w_m_isHere (Γ, ω, 2, ad, N, 0, 0) σ a1 C)
theorem ag_LM_15 : AG LM 15 0 40 := ⟨by decide, rfl⟩
theorem fg_X12_167 : FG LM RX12 167 0 0 0 (0, 0) := ⟨_, _, _, _, _, rfl, rfl, rfl, by decide, uw_X12, (in_wt 1234 (by decide +kernel) (by decide +kernel))⟩
theorem fg_X12_52 : FG LM RX12 52 0 0 18 (1, 15) := ⟨_, _, _, _, _, rfl, rfl, rfl, by decide, uw_X12, (in_wt 1252 (by decide +kernel) (by decide +kernel))⟩
/-- PostsEndModel.private boolean isGuarded(int) -/
def m_isGuarded (σ : St) (a1 : Int32) : Option Int32 := (Option.bind (ix 40 a1) fun i1 => (if σ.1 0 15 i1 < σ.1 0 0 0 then some (0 : Int32) else some (1 : Int32)))
set_option maxRecDepth 20000 in
set_option maxHeartbeats 4000000 in
theorem w_m_isGuarded (Θ : TT) (σ : St) (a1 : Int32) (C : CX Θ cX12_isGuarded RX12 (some .boolean) ({ frames := 0, cells := 0, slots := 0, locals := 0 } : Room) 2) : WA LM Θ (fun r : Int32 => Qm LM Θ (some (.int r)) σ (narrow .boolean (.int r) = .int r)) 0 [some (.ref (cF Θ 0)), some (.int a1)] [] σ (m_isGuarded σ a1) := by
  unfold m_isGuarded
  refine r_aload_n C dX12_isGuarded_0 rfl ?_
  refine r_getF0 C dX12_isGuarded_1 fg_X12_52 (by decide) ?_
  refine r_iload_n C dX12_isGuarded_4 rfl ?_
  refine r_iald (α := Unit) C dX12_isGuarded_5 ag_LM_15 (fun i1 => ?_)
  refine r_aload_n C dX12_isGuarded_6 rfl ?_
  refine r_getI0 C dX12_isGuarded_7 fg_X12_167 (by decide) ?_
  refine r_icmp_lt C 17 dX12_isGuarded_10 (by decide) ?_ ?_
  · refine r_iconst C (0 : Int32) dX12_isGuarded_17 (by decide) ?_
    exact r_zret C dX12_isGuarded_18 (show narrow .boolean (.int (0 : Int32)) = .int (0 : Int32) from rfl) rfl rfl (show narrow .boolean (.int (0 : Int32)) = .int (0 : Int32) from rfl)
  · refine r_iconst C (1 : Int32) dX12_isGuarded_13 (by decide) ?_
    refine r_goto C 18 dX12_isGuarded_14 (by decide) ?_
    exact r_zret C dX12_isGuarded_18 (show narrow .boolean (.int (1 : Int32)) = .int (1 : Int32) from rfl) rfl rfl (show narrow .boolean (.int (1 : Int32)) = .int (1 : Int32) from rfl)
theorem c_m_isGuarded (l : Launch) (ω : Wd) (ad : Nat → Nat → Nat) (N : Nat → Nat) (σ : St) (a1 : Int32) : ∀ r : Int32, m_isGuarded σ a1 = some r → Ct l yX12_isGuarded cX12_isGuarded 2 (some .boolean) ({ frames := 0, cells := 0, slots := 0, locals := 0 } : Room) LM ω ad N [.ref (ω.2.1 0), .int a1] σ (some (.int r)) σ (narrow .boolean (.int r) = .int r) :=
  ct_of (o := fun r : Int32 => (some (.int r))) (s' := fun r => σ) (P := fun r => narrow .boolean (.int r) = .int r) [some (.ref (ω.2.1 0)), some (.int a1)] (by decide) rfl (Nat.le_of_ble_eq_true rfl) (fun Γ C _ _ => w_m_isGuarded (Γ, ω, 2, ad, N, 0, 0) σ a1 C)
theorem ag_LM_12 : AG LM 12 0 40 := ⟨by decide, rfl⟩
theorem fg_X12_43 : FG LM RX12 43 0 0 15 (1, 12) := ⟨_, _, _, _, _, rfl, rfl, rfl, by decide, uw_X12, (in_wt 1249 (by decide +kernel) (by decide +kernel))⟩
/-- PostsEndModel.private int holder(int) -/
def m_holder (σ : St) (a1 : Int32) : Option Int32 := (Option.bind (itr0 (S := Int32) (E := ((Unit) ⊕ (Int32))) (fun s1 => (if s1 < σ.1 0 0 11 then (Option.bind (ix 40 s1) fun i9 => (if σ.1 0 12 i9 = a1 then some (.inr (.inr s1)) else some (.inl (s1 + (1 : Int32))))) else some (.inr (.inl ())))) FU (0 : Int32)) (Sum.elim (fun e6 => some (-1 : Int32)) some))
set_option maxRecDepth 20000 in
set_option maxHeartbeats 4000000 in
theorem w_m_holder (Θ : TT) (σ : St) (a1 : Int32) (C : CX Θ cX12_holder RX12 (some .int) ({ frames := 0, cells := 0, slots := 0, locals := 0 } : Room) 3) : WA LM Θ (fun r : Int32 => Qm LM Θ (some (.int r)) σ (True)) 0 [some (.ref (cF Θ 0)), some (.int a1), none] [] σ (m_holder σ a1) := by
  unfold m_holder
  refine r_iconst C (0 : Int32) dX12_holder_0 (by decide) ?_
  refine r_istore_n C [some (.ref (cF Θ 0)), some (.int a1), some (.int (0 : Int32))] dX12_holder_1 rfl (by decide) rfl ?_
  refine WA.joinL (α := Unit) 28 (fun e6 => [none, none, none]) (fun e6 => []) (fun e6 => σ) (fun e6 => True) (fun e6 h7 => ?_) (fun J8 => ?_)
  · refine WA.sml ?_
    refine r_iconst C (-1 : Int32) dX12_holder_28 (by decide) ?_
    exact r_iret C dX12_holder_29 rfl rfl trivial
  · refine WA.wk (lv' := [some (.ref (cF Θ 0)), some (.int a1), some (.int (0 : Int32))]) [true, true, true] rfl ?_
    refine WA.itr (S := Int32) 2 (fun s1 => [some (.ref (cF Θ 0)), some (.int a1), some (.int s1)]) (fun s1 => []) (fun s1 => σ) (fun s1 => True) (fun s1 k5 h2 ih3 hx4 => ?_) FU (0 : Int32) trivial
    refine r_iload_n C dX12_holder_2 rfl ?_
    refine r_aload_n C dX12_holder_3 rfl ?_
    refine r_getI0 C dX12_holder_4 fg_X12_164 (by decide) ?_
    refine WA.bif ?_
    refine r_icmp_ge C 28 dX12_holder_7 (by decide) ?_ ?_
    · refine WA.wk (lv' := [none, none, none]) [false, false, false] rfl ?_
      exact WA.eqK (hx4 _) (J8 () trivial)
    · refine r_aload_n C dX12_holder_10 rfl ?_
      refine r_getF0 C dX12_holder_11 fg_X12_43 (by decide) ?_
      refine r_iload_n C dX12_holder_14 rfl ?_
      refine WA.asc ?_
      refine r_iald (α := Unit) C dX12_holder_15 ag_LM_12 (fun i9 => ?_)
      refine r_iload_n C dX12_holder_16 rfl ?_
      refine WA.bif ?_
      refine r_icmp_ne C 22 dX12_holder_17 (by decide) ?_ ?_
      · refine r_iinc C (1 : Int32) [some (.ref (cF Θ 0)), some (.int a1), some (.int (s1 + (1 : Int32)))] dX12_holder_22 (by decide) rfl rfl (by decide) rfl ?_
        refine r_goto C 2 dX12_holder_25 (by decide) ?_
        refine WA.wk (lv' := [some (.ref (cF Θ 0)), some (.int a1), some (.int (s1 + (1 : Int32)))]) [true, true, true] rfl ?_
        exact ih3 (s1 + (1 : Int32)) trivial
      · refine r_iload_n C dX12_holder_20 rfl ?_
        refine WA.eqK (hx4 _) ?_
        exact r_iret C dX12_holder_21 rfl rfl trivial
theorem c_m_holder (l : Launch) (ω : Wd) (ad : Nat → Nat → Nat) (N : Nat → Nat) (σ : St) (a1 : Int32) : ∀ r : Int32, m_holder σ a1 = some r → Ct l yX12_holder cX12_holder 3 (some .int) ({ frames := 0, cells := 0, slots := 0, locals := 0 } : Room) LM ω ad N [.ref (ω.2.1 0), .int a1] σ (some (.int r)) σ (True) :=
  ct_of (o := fun r : Int32 => (some (.int r))) (s' := fun r => σ) (P := fun r => True) [some (.ref (ω.2.1 0)), some (.int a1), none] (by decide) rfl (Nat.le_of_ble_eq_true rfl) (fun Γ C _ _ => w_m_holder (Γ, ω, 3, ad, N, 0, 0) σ a1 C)
theorem ag_LM_8 : AG LM 8 0 40 := ⟨by decide, rfl⟩
theorem vw_X12_holder : VW yX12_holder cX12_holder 3 (some .int) 1 := ⟨⟨(in_wt 88 (by decide +kernel) (by decide +kernel)), (in_wt 1468 (by decide +kernel) (by decide +kernel)), by decide +kernel⟩, (in_wt 1467 (by decide +kernel) (by decide +kernel)), (in_wt 43 (by decide +kernel) (by decide +kernel))⟩
theorem fg_X12_31 : FG LM RX12 31 0 0 10 (1, 8) := ⟨_, _, _, _, _, rfl, rfl, rfl, by decide, uw_X12, (in_wt 1244 (by decide +kernel) (by decide +kernel))⟩
theorem ml_X12_170 : Cond.methodLink RX12 170 yX12_holder ∈ wt := in_wt 1465 (by decide +kernel) (by decide +kernel)
/-- PostsEndModel.private boolean isVacant(int) -/
def m_isVacant (σ : St) (a1 : Int32) : Option Int32 := (Option.bind (ix 40 a1) fun i1 => (if σ.1 0 8 i1 < 0 then (Option.bind (m_holder σ a1) fun r2 => (if r2 < 0 then some (1 : Int32) else some (0 : Int32))) else some (0 : Int32)))
set_option maxRecDepth 20000 in
set_option maxHeartbeats 4000000 in
theorem w_m_isVacant (Θ : TT) (σ : St) (a1 : Int32) (C : CX Θ cX12_isVacant RX12 (some .boolean) ({ frames := 1, cells := 0, slots := 0, locals := 22 } : Room) 2) : WA LM Θ (fun r : Int32 => Qm LM Θ (some (.int r)) σ (narrow .boolean (.int r) = .int r)) 0 [some (.ref (cF Θ 0)), some (.int a1)] [] σ (m_isVacant σ a1) := by
  unfold m_isVacant
  refine r_aload_n C dX12_isVacant_0 rfl ?_
  refine r_getF0 C dX12_isVacant_1 fg_X12_31 (by decide) ?_
  refine r_iload_n C dX12_isVacant_4 rfl ?_
  refine r_iald (α := Unit) C dX12_isVacant_5 ag_LM_8 (fun i1 => ?_)
  refine r_if_ge C 21 dX12_isVacant_6 (by decide) ?_ ?_
  · refine r_iconst C (0 : Int32) dX12_isVacant_21 (by decide) ?_
    exact r_zret C dX12_isVacant_22 (show narrow .boolean (.int (0 : Int32)) = .int (0 : Int32) from rfl) rfl rfl (show narrow .boolean (.int (0 : Int32)) = .int (0 : Int32) from rfl)
  · refine r_aload_n C dX12_isVacant_9 rfl ?_
    refine r_iload_n C dX12_isVacant_10 rfl ?_
    refine r_callV C (st := []) (As := [.int a1]) (d := 0) (j := 0) dX12_isVacant_11 ml_X12_170 vw_X12_holder ⟨_, _, _, _, rfl, rfl⟩ (dm0 (by decide)) (fun r2 e => c_m_holder Θ.1.2.1 (cW Θ) (cAd Θ) (cN Θ) σ a1 r2 e) rfl rfl (Nat.le_of_ble_eq_true rfl) ⟨rfl, rfl, by decide, by decide⟩ (fun r2 h3 => ?_)
    refine r_if_ge C 21 dX12_isVacant_14 (by decide) ?_ ?_
    · refine r_iconst C (0 : Int32) dX12_isVacant_21 (by decide) ?_
      exact r_zret C dX12_isVacant_22 (show narrow .boolean (.int (0 : Int32)) = .int (0 : Int32) from rfl) rfl rfl (show narrow .boolean (.int (0 : Int32)) = .int (0 : Int32) from rfl)
    · refine r_iconst C (1 : Int32) dX12_isVacant_17 (by decide) ?_
      refine r_goto C 22 dX12_isVacant_18 (by decide) ?_
      exact r_zret C dX12_isVacant_22 (show narrow .boolean (.int (1 : Int32)) = .int (1 : Int32) from rfl) rfl rfl (show narrow .boolean (.int (1 : Int32)) = .int (1 : Int32) from rfl)
theorem c_m_isVacant (l : Launch) (ω : Wd) (ad : Nat → Nat → Nat) (N : Nat → Nat) (σ : St) (a1 : Int32) : ∀ r : Int32, m_isVacant σ a1 = some r → Ct l yX12_isVacant cX12_isVacant 2 (some .boolean) ({ frames := 1, cells := 0, slots := 0, locals := 22 } : Room) LM ω ad N [.ref (ω.2.1 0), .int a1] σ (some (.int r)) σ (narrow .boolean (.int r) = .int r) :=
  ct_of (o := fun r : Int32 => (some (.int r))) (s' := fun r => σ) (P := fun r => narrow .boolean (.int r) = .int r) [some (.ref (ω.2.1 0)), some (.int a1)] (by decide) rfl (Nat.le_of_ble_eq_true rfl) (fun Γ C _ _ => w_m_isVacant (Γ, ω, 2, ad, N, 0, 0) σ a1 C)
theorem vw_X12_refuse : VW yX12_refuse cX12_refuse 2 (some .int) 1 := ⟨⟨(in_wt 88 (by decide +kernel) (by decide +kernel)), (in_wt 1441 (by decide +kernel) (by decide +kernel)), by decide +kernel⟩, (in_wt 1440 (by decide +kernel) (by decide +kernel)), (in_wt 40 (by decide +kernel) (by decide +kernel))⟩
theorem fp_X12_167 : FP LM RX12 167 0 0 0 (0, 0) .int := ⟨_, _, _, _, _, tyX12, rfl, rfl, rfl, by decide, uw_X12, (in_wt 1234 (by decide +kernel) (by decide +kernel)), tyX12_ok, nmX12, rfl, by decide +kernel⟩
theorem ml_X12_174 : Cond.methodLink RX12 174 yX12_refuse ∈ wt := in_wt 1438 (by decide +kernel) (by decide +kernel)
/-- PostsEndModel.public int days(int) -/
def m_days (σ : St) (a1 : Int32) : Option (Int32 × St) := (if a1 < (1 : Int32) then (Option.bind (m_refuse σ (-4 : Int32)) fun r4 => some (r4.1, r4.2)) else (if (3000 : Int32) - (σ.1 0 0 0) < a1 then (Option.bind (m_refuse σ (-6 : Int32)) fun r2 => some (r2.1, r2.2)) else (lt1 (sx σ 0 0 0 ((σ.1 0 0 0) + a1)) fun σ1 => some (σ1.1 0 0 0, σ1))))
set_option maxRecDepth 20000 in
set_option maxHeartbeats 4000000 in
theorem w_m_days (Θ : TT) (σ : St) (a1 : Int32) (C : CX Θ cX12_days RX12 (some .int) ({ frames := 1, cells := 0, slots := 0, locals := 21 } : Room) 2) : WA LM Θ (fun r : Int32 × St => Qm LM Θ (some (.int r.1)) r.2 (True)) 0 [some (.ref (cF Θ 0)), some (.int a1)] [] σ (m_days σ a1) := by
  unfold m_days
  refine r_iload_n C dX12_days_0 rfl ?_
  refine r_iconst C (1 : Int32) dX12_days_1 (by decide) ?_
  refine r_icmp_ge C 12 dX12_days_2 (by decide) ?_ ?_
  · refine r_iload_n C dX12_days_12 rfl ?_
    refine r_sipush C (3000 : Int32) dX12_days_13 (by decide) ?_
    refine r_aload_n C dX12_days_16 rfl ?_
    refine r_getI0 C dX12_days_17 fg_X12_167 (by decide) ?_
    refine r_isub C dX12_days_20 ?_
    refine r_icmp_le C 31 dX12_days_21 (by decide) ?_ ?_
    · refine r_aload_n C dX12_days_31 rfl ?_
      refine r_dup C dX12_days_32 rfl ?_
      refine r_getI0 C dX12_days_33 fg_X12_167 (by decide) ?_
      refine r_iload_n C dX12_days_36 rfl ?_
      refine r_iadd C dX12_days_37 ?_
      refine r_putI0 C dX12_days_38 fp_X12_167 (by decide) ?_
      refine WA.gen (fun σ1 => ?_)
      refine r_aload_n C dX12_days_41 rfl ?_
      refine r_getI0 C dX12_days_42 fg_X12_167 (by decide) ?_
      exact r_iret C dX12_days_45 rfl rfl trivial
    · refine r_aload_n C dX12_days_24 rfl ?_
      refine r_bipush C (-6 : Int32) dX12_days_25 (by decide) ?_
      refine r_callV C (st := []) (As := [.int (-6 : Int32)]) (d := 0) (j := 0) dX12_days_27 ml_X12_174 vw_X12_refuse ⟨_, _, _, _, rfl, rfl⟩ (dm0 (by decide)) (fun r2 e => c_m_refuse Θ.1.2.1 (cW Θ) (cAd Θ) (cN Θ) σ (-6 : Int32) r2 e) rfl rfl (Nat.le_of_ble_eq_true rfl) ⟨rfl, rfl, by decide, by decide⟩ (fun r2 h3 => ?_)
      exact r_iret C dX12_days_30 rfl rfl trivial
  · refine r_aload_n C dX12_days_5 rfl ?_
    refine r_bipush C (-4 : Int32) dX12_days_6 (by decide) ?_
    refine r_callV C (st := []) (As := [.int (-4 : Int32)]) (d := 0) (j := 0) dX12_days_8 ml_X12_174 vw_X12_refuse ⟨_, _, _, _, rfl, rfl⟩ (dm0 (by decide)) (fun r4 e => c_m_refuse Θ.1.2.1 (cW Θ) (cAd Θ) (cN Θ) σ (-4 : Int32) r4 e) rfl rfl (Nat.le_of_ble_eq_true rfl) ⟨rfl, rfl, by decide, by decide⟩ (fun r4 h5 => ?_)
    exact r_iret C dX12_days_11 rfl rfl trivial
theorem c_m_days (l : Launch) (ω : Wd) (ad : Nat → Nat → Nat) (N : Nat → Nat) (σ : St) (a1 : Int32) : ∀ r : Int32 × St, m_days σ a1 = some r → Ct l yX12_days cX12_days 2 (some .int) ({ frames := 1, cells := 0, slots := 0, locals := 21 } : Room) LM ω ad N [.ref (ω.2.1 0), .int a1] σ (some (.int r.1)) r.2 (True) :=
  ct_of (o := fun r : Int32 × St => (some (.int r.1))) (s' := fun r => r.2) (P := fun r => True) [some (.ref (ω.2.1 0)), some (.int a1)] (by decide) rfl (Nat.le_of_ble_eq_true rfl) (fun Γ C _ _ => w_m_days (Γ, ω, 2, ad, N, 0, 0) σ a1 C)
theorem ag_LM_1 : AG LM 1 0 12 := ⟨by decide, rfl⟩
theorem ag_LM_2 : AG LM 2 0 12 := ⟨by decide, rfl⟩
theorem fg_X12_13 : FG LM RX12 13 0 0 3 (1, 2) := ⟨_, _, _, _, _, rfl, rfl, rfl, by decide, uw_X12, (in_wt 1237 (by decide +kernel) (by decide +kernel))⟩
theorem fg_X12_7 : FG LM RX12 7 0 0 2 (1, 1) := ⟨_, _, _, _, _, rfl, rfl, rfl, by decide, uw_X12, (in_wt 1236 (by decide +kernel) (by decide +kernel))⟩
theorem fp_X12_154 : FP LM RX12 154 0 0 1 (0, 0) .int := ⟨_, _, _, _, _, tyX12, rfl, rfl, rfl, by decide, uw_X12, (in_wt 1235 (by decide +kernel) (by decide +kernel)), tyX12_ok, nmX12, rfl, by decide +kernel⟩
/-- PostsEndModel.public int unit(int, int) -/
def m_unit (σ : St) (a1 : Int32) (a2 : Int32) : Option (Int32 × St) := (Option.bind (m_in a2 (-1 : Int32) ((σ.1 0 0 1) - (1 : Int32))) fun r1 => (if r1 = 0 then (Option.bind (m_refuse σ (-1 : Int32)) fun r14 => some (r14.1, r14.2)) else (if a1 < 0 then (Option.bind (m_refuse σ (-4 : Int32)) fun r12 => some (r12.1, r12.2)) else (if (3 : Int32) < a1 then (Option.bind (m_refuse σ (-6 : Int32)) fun r3 => some (r3.1, r3.2)) else (if σ.1 0 0 1 = (12 : Int32) then (Option.bind (m_refuse σ (-6 : Int32)) fun r10 => some (r10.1, r10.2)) else (Option.bind (ix 12 (σ.1 0 0 1)) fun i5 => (lt1 (sx σ 0 1 i5 a1) fun σ6 => (Option.bind (ix 12 (σ6.1 0 0 1)) fun i7 => (lt1 (sx σ6 0 2 i7 a2) fun σ8 => (lt1 (sx σ8 0 0 1 ((σ8.1 0 0 1) + (1 : Int32))) fun σ9 => some ((σ9.1 0 0 1) - (1 : Int32), σ9)))))))))))
set_option maxRecDepth 20000 in
set_option maxHeartbeats 4000000 in
theorem w_m_unit (Θ : TT) (σ : St) (a1 : Int32) (a2 : Int32) (C : CX Θ cX12_unit RX12 (some .int) ({ frames := 1, cells := 0, slots := 0, locals := 22 } : Room) 3) : WA LM Θ (fun r : Int32 × St => Qm LM Θ (some (.int r.1)) r.2 (True)) 0 [some (.ref (cF Θ 0)), some (.int a1), some (.int a2)] [] σ (m_unit σ a1 a2) := by
  unfold m_unit
  refine r_iload_n C dX12_unit_0 rfl ?_
  refine r_iconst C (-1 : Int32) dX12_unit_1 (by decide) ?_
  refine r_aload_n C dX12_unit_2 rfl ?_
  refine r_getI0 C dX12_unit_3 fg_X12_154 (by decide) ?_
  refine r_iconst C (1 : Int32) dX12_unit_6 (by decide) ?_
  refine r_isub C dX12_unit_7 ?_
  refine r_callS C (st := []) (As := [.int a2, .int (-1 : Int32), .int ((σ.1 0 0 1) - (1 : Int32))]) dX12_unit_8 ml_X12_157 sw_X12_in (fun r1 e => c_m_in Θ.1.2.1 (cW Θ) (cAd Θ) (cN Θ) σ a2 (-1 : Int32) ((σ.1 0 0 1) - (1 : Int32)) r1 e) rfl rfl (Nat.le_of_ble_eq_true rfl) ⟨rfl, rfl, by decide, by decide⟩ (fun r1 h2 => ?_)
  refine r_if_ne C 20 dX12_unit_11 (by decide) ?_ ?_
  · refine r_iload_n C dX12_unit_20 rfl ?_
    refine r_if_ge C 31 dX12_unit_21 (by decide) ?_ ?_
    · refine r_iload_n C dX12_unit_31 rfl ?_
      refine r_iconst C (3 : Int32) dX12_unit_32 (by decide) ?_
      refine r_icmp_gt C 45 dX12_unit_33 (by decide) ?_ ?_
      · refine r_aload_n C dX12_unit_45 rfl ?_
        refine r_bipush C (-6 : Int32) dX12_unit_46 (by decide) ?_
        refine r_callV C (st := []) (As := [.int (-6 : Int32)]) (d := 0) (j := 0) dX12_unit_48 ml_X12_174 vw_X12_refuse ⟨_, _, _, _, rfl, rfl⟩ (dm0 (by decide)) (fun r3 e => c_m_refuse Θ.1.2.1 (cW Θ) (cAd Θ) (cN Θ) σ (-6 : Int32) r3 e) rfl rfl (Nat.le_of_ble_eq_true rfl) ⟨rfl, rfl, by decide, by decide⟩ (fun r3 h4 => ?_)
        exact r_iret C dX12_unit_51 rfl rfl trivial
      · refine r_aload_n C dX12_unit_36 rfl ?_
        refine r_getI0 C dX12_unit_37 fg_X12_154 (by decide) ?_
        refine r_bipush C (12 : Int32) dX12_unit_40 (by decide) ?_
        refine r_icmp_ne C 52 dX12_unit_42 (by decide) ?_ ?_
        · refine r_aload_n C dX12_unit_52 rfl ?_
          refine r_getF0 C dX12_unit_53 fg_X12_7 (by decide) ?_
          refine r_aload_n C dX12_unit_56 rfl ?_
          refine r_getI0 C dX12_unit_57 fg_X12_154 (by decide) ?_
          refine r_iload_n C dX12_unit_60 rfl ?_
          refine r_iast C dX12_unit_61 ag_LM_1 (fun i5 => ?_)
          refine WA.gen (fun σ6 => ?_)
          refine r_aload_n C dX12_unit_62 rfl ?_
          refine r_getF0 C dX12_unit_63 fg_X12_13 (by decide) ?_
          refine r_aload_n C dX12_unit_66 rfl ?_
          refine r_getI0 C dX12_unit_67 fg_X12_154 (by decide) ?_
          refine r_iload_n C dX12_unit_70 rfl ?_
          refine r_iast C dX12_unit_71 ag_LM_2 (fun i7 => ?_)
          refine WA.gen (fun σ8 => ?_)
          refine r_aload_n C dX12_unit_72 rfl ?_
          refine r_dup C dX12_unit_73 rfl ?_
          refine r_getI0 C dX12_unit_74 fg_X12_154 (by decide) ?_
          refine r_iconst C (1 : Int32) dX12_unit_77 (by decide) ?_
          refine r_iadd C dX12_unit_78 ?_
          refine r_putI0 C dX12_unit_79 fp_X12_154 (by decide) ?_
          refine WA.gen (fun σ9 => ?_)
          refine r_aload_n C dX12_unit_82 rfl ?_
          refine r_getI0 C dX12_unit_83 fg_X12_154 (by decide) ?_
          refine r_iconst C (1 : Int32) dX12_unit_86 (by decide) ?_
          refine r_isub C dX12_unit_87 ?_
          exact r_iret C dX12_unit_88 rfl rfl trivial
        · refine r_aload_n C dX12_unit_45 rfl ?_
          refine r_bipush C (-6 : Int32) dX12_unit_46 (by decide) ?_
          refine r_callV C (st := []) (As := [.int (-6 : Int32)]) (d := 0) (j := 0) dX12_unit_48 ml_X12_174 vw_X12_refuse ⟨_, _, _, _, rfl, rfl⟩ (dm0 (by decide)) (fun r10 e => c_m_refuse Θ.1.2.1 (cW Θ) (cAd Θ) (cN Θ) σ (-6 : Int32) r10 e) rfl rfl (Nat.le_of_ble_eq_true rfl) ⟨rfl, rfl, by decide, by decide⟩ (fun r10 h11 => ?_)
          exact r_iret C dX12_unit_51 rfl rfl trivial
    · refine r_aload_n C dX12_unit_24 rfl ?_
      refine r_bipush C (-4 : Int32) dX12_unit_25 (by decide) ?_
      refine r_callV C (st := []) (As := [.int (-4 : Int32)]) (d := 0) (j := 0) dX12_unit_27 ml_X12_174 vw_X12_refuse ⟨_, _, _, _, rfl, rfl⟩ (dm0 (by decide)) (fun r12 e => c_m_refuse Θ.1.2.1 (cW Θ) (cAd Θ) (cN Θ) σ (-4 : Int32) r12 e) rfl rfl (Nat.le_of_ble_eq_true rfl) ⟨rfl, rfl, by decide, by decide⟩ (fun r12 h13 => ?_)
      exact r_iret C dX12_unit_30 rfl rfl trivial
  · refine r_aload_n C dX12_unit_14 rfl ?_
    refine r_iconst C (-1 : Int32) dX12_unit_15 (by decide) ?_
    refine r_callV C (st := []) (As := [.int (-1 : Int32)]) (d := 0) (j := 0) dX12_unit_16 ml_X12_174 vw_X12_refuse ⟨_, _, _, _, rfl, rfl⟩ (dm0 (by decide)) (fun r14 e => c_m_refuse Θ.1.2.1 (cW Θ) (cAd Θ) (cN Θ) σ (-1 : Int32) r14 e) rfl rfl (Nat.le_of_ble_eq_true rfl) ⟨rfl, rfl, by decide, by decide⟩ (fun r14 h15 => ?_)
    exact r_iret C dX12_unit_19 rfl rfl trivial
theorem c_m_unit (l : Launch) (ω : Wd) (ad : Nat → Nat → Nat) (N : Nat → Nat) (σ : St) (a1 : Int32) (a2 : Int32) : ∀ r : Int32 × St, m_unit σ a1 a2 = some r → Ct l yX12_unit cX12_unit 3 (some .int) ({ frames := 1, cells := 0, slots := 0, locals := 22 } : Room) LM ω ad N [.ref (ω.2.1 0), .int a1, .int a2] σ (some (.int r.1)) r.2 (True) :=
  ct_of (o := fun r : Int32 × St => (some (.int r.1))) (s' := fun r => r.2) (P := fun r => True) [some (.ref (ω.2.1 0)), some (.int a1), some (.int a2)] (by decide) rfl (Nat.le_of_ble_eq_true rfl) (fun Γ C _ _ => w_m_unit (Γ, ω, 3, ad, N, 0, 0) σ a1 a2 C)
theorem ag_LM_3 : AG LM 3 0 40 := ⟨by decide, rfl⟩
theorem ag_LM_4 : AG LM 4 0 40 := ⟨by decide, rfl⟩
theorem ag_LM_5 : AG LM 5 0 40 := ⟨by decide, rfl⟩
theorem ag_LM_6 : AG LM 6 0 40 := ⟨by decide, rfl⟩
theorem ag_LM_7 : AG LM 7 0 40 := ⟨by decide, rfl⟩
theorem vw_X12_isUnit : VW yX12_isUnit cX12_isUnit 2 (some .boolean) 1 := ⟨⟨(in_wt 88 (by decide +kernel) (by decide +kernel)), (in_wt 1456 (by decide +kernel) (by decide +kernel)), by decide +kernel⟩, (in_wt 1455 (by decide +kernel) (by decide +kernel)), (in_wt 41 (by decide +kernel) (by decide +kernel))⟩
theorem fg_X12_16 : FG LM RX12 16 0 0 5 (1, 3) := ⟨_, _, _, _, _, rfl, rfl, rfl, by decide, uw_X12, (in_wt 1239 (by decide +kernel) (by decide +kernel))⟩
theorem fg_X12_19 : FG LM RX12 19 0 0 6 (1, 4) := ⟨_, _, _, _, _, rfl, rfl, rfl, by decide, uw_X12, (in_wt 1240 (by decide +kernel) (by decide +kernel))⟩
theorem fg_X12_22 : FG LM RX12 22 0 0 7 (1, 5) := ⟨_, _, _, _, _, rfl, rfl, rfl, by decide, uw_X12, (in_wt 1241 (by decide +kernel) (by decide +kernel))⟩
theorem fg_X12_25 : FG LM RX12 25 0 0 8 (1, 6) := ⟨_, _, _, _, _, rfl, rfl, rfl, by decide, uw_X12, (in_wt 1242 (by decide +kernel) (by decide +kernel))⟩
theorem fg_X12_28 : FG LM RX12 28 0 0 9 (1, 7) := ⟨_, _, _, _, _, rfl, rfl, rfl, by decide, uw_X12, (in_wt 1243 (by decide +kernel) (by decide +kernel))⟩
theorem fp_X12_161 : FP LM RX12 161 0 0 4 (0, 0) .int := ⟨_, _, _, _, _, tyX12, rfl, rfl, rfl, by decide, uw_X12, (in_wt 1238 (by decide +kernel) (by decide +kernel)), tyX12_ok, nmX12, rfl, by decide +kernel⟩
theorem ml_X12_177 : Cond.methodLink RX12 177 yX12_isUnit ∈ wt := in_wt 1453 (by decide +kernel) (by decide +kernel)
/-- PostsEndModel.public int post(int, int, int, int, int) -/
def m_post (σ : St) (a1 : Int32) (a2 : Int32) (a3 : Int32) (a4 : Int32) (a5 : Int32) : Option (Int32 × St) := (Option.bind (m_isUnit σ a1) fun r1 => (if r1 = 0 then (Option.bind (m_refuse σ (-1 : Int32)) fun r34 => some (r34.1, r34.2)) else (if a2 < 0 then (Option.bind (m_refuse σ (-4 : Int32)) fun r3 => some (r3.1, r3.2)) else (if a3 < (1 : Int32) then (Option.bind (m_refuse σ (-4 : Int32)) fun r5 => some (r5.1, r5.2)) else (if a4 < (1 : Int32) then (Option.bind (m_refuse σ (-4 : Int32)) fun r7 => some (r7.1, r7.2)) else (if a5 < 0 then (Option.bind (m_refuse σ (-4 : Int32)) fun r32 => some (r32.1, r32.2)) else (if (7 : Int32) < a2 then (Option.bind (m_refuse σ (-6 : Int32)) fun r9 => some (r9.1, r9.2)) else (if (9 : Int32) < a3 then (Option.bind (m_refuse σ (-6 : Int32)) fun r11 => some (r11.1, r11.2)) else (if (40 : Int32) < a4 then (Option.bind (m_refuse σ (-6 : Int32)) fun r13 => some (r13.1, r13.2)) else (if (1023 : Int32) < a5 then (Option.bind (m_refuse σ (-6 : Int32)) fun r15 => some (r15.1, r15.2)) else (if σ.1 0 0 4 = (40 : Int32) then (Option.bind (m_refuse σ (-6 : Int32)) fun r30 => some (r30.1, r30.2)) else (Option.bind (ix 40 (σ.1 0 0 4)) fun i17 => (lt1 (sx σ 0 3 i17 a1) fun σ18 => (Option.bind (ix 40 (σ18.1 0 0 4)) fun i19 => (lt1 (sx σ18 0 4 i19 a2) fun σ20 => (Option.bind (ix 40 (σ20.1 0 0 4)) fun i21 => (lt1 (sx σ20 0 5 i21 a3) fun σ22 => (Option.bind (ix 40 (σ22.1 0 0 4)) fun i23 => (lt1 (sx σ22 0 6 i23 a4) fun σ24 => (Option.bind (ix 40 (σ24.1 0 0 4)) fun i25 => (lt1 (sx σ24 0 7 i25 a5) fun σ26 => (Option.bind (ix 40 (σ26.1 0 0 4)) fun i27 => (lt1 (sx σ26 0 8 i27 (-1 : Int32)) fun σ28 => (lt1 (sx σ28 0 0 4 ((σ28.1 0 0 4) + (1 : Int32))) fun σ29 => some ((σ29.1 0 0 4) - (1 : Int32), σ29)))))))))))))))))))))))))
set_option maxRecDepth 20000 in
set_option maxHeartbeats 4000000 in
theorem w_m_post (Θ : TT) (σ : St) (a1 : Int32) (a2 : Int32) (a3 : Int32) (a4 : Int32) (a5 : Int32) (C : CX Θ cX12_post RX12 (some .int) ({ frames := 2, cells := 0, slots := 0, locals := 43 } : Room) 6) : WA LM Θ (fun r : Int32 × St => Qm LM Θ (some (.int r.1)) r.2 (True)) 0 [some (.ref (cF Θ 0)), some (.int a1), some (.int a2), some (.int a3), some (.int a4), some (.int a5)] [] σ (m_post σ a1 a2 a3 a4 a5) := by
  unfold m_post
  refine r_aload_n C dX12_post_0 rfl ?_
  refine r_iload_n C dX12_post_1 rfl ?_
  refine r_callV C (st := []) (As := [.int a1]) (d := 0) (j := 0) dX12_post_2 ml_X12_177 vw_X12_isUnit ⟨_, _, _, _, rfl, rfl⟩ (dm0 (by decide)) (fun r1 e => c_m_isUnit Θ.1.2.1 (cW Θ) (cAd Θ) (cN Θ) σ a1 r1 e) rfl rfl (Nat.le_of_ble_eq_true rfl) ⟨rfl, rfl, by decide, by decide⟩ (fun r1 h2 => ?_)
  refine r_if_ne C 14 dX12_post_5 (by decide) ?_ ?_
  · refine r_iload_n C dX12_post_14 rfl ?_
    refine r_if_lt C 34 dX12_post_15 (by decide) ?_ ?_
    · refine r_aload_n C dX12_post_34 rfl ?_
      refine r_bipush C (-4 : Int32) dX12_post_35 (by decide) ?_
      refine r_callV C (st := []) (As := [.int (-4 : Int32)]) (d := 0) (j := 0) dX12_post_37 ml_X12_174 vw_X12_refuse ⟨_, _, _, _, rfl, rfl⟩ (dm0 (by decide)) (fun r3 e => c_m_refuse Θ.1.2.1 (cW Θ) (cAd Θ) (cN Θ) σ (-4 : Int32) r3 e) rfl rfl (Nat.le_of_ble_eq_true rfl) ⟨rfl, rfl, by decide, by decide⟩ (fun r3 h4 => ?_)
      exact r_iret C dX12_post_40 rfl rfl trivial
    · refine r_iload_n C dX12_post_18 rfl ?_
      refine r_iconst C (1 : Int32) dX12_post_19 (by decide) ?_
      refine r_icmp_lt C 34 dX12_post_20 (by decide) ?_ ?_
      · refine r_aload_n C dX12_post_34 rfl ?_
        refine r_bipush C (-4 : Int32) dX12_post_35 (by decide) ?_
        refine r_callV C (st := []) (As := [.int (-4 : Int32)]) (d := 0) (j := 0) dX12_post_37 ml_X12_174 vw_X12_refuse ⟨_, _, _, _, rfl, rfl⟩ (dm0 (by decide)) (fun r5 e => c_m_refuse Θ.1.2.1 (cW Θ) (cAd Θ) (cN Θ) σ (-4 : Int32) r5 e) rfl rfl (Nat.le_of_ble_eq_true rfl) ⟨rfl, rfl, by decide, by decide⟩ (fun r5 h6 => ?_)
        exact r_iret C dX12_post_40 rfl rfl trivial
      · refine r_iload C dX12_post_23 rfl ?_
        refine r_iconst C (1 : Int32) dX12_post_25 (by decide) ?_
        refine r_icmp_lt C 34 dX12_post_26 (by decide) ?_ ?_
        · refine r_aload_n C dX12_post_34 rfl ?_
          refine r_bipush C (-4 : Int32) dX12_post_35 (by decide) ?_
          refine r_callV C (st := []) (As := [.int (-4 : Int32)]) (d := 0) (j := 0) dX12_post_37 ml_X12_174 vw_X12_refuse ⟨_, _, _, _, rfl, rfl⟩ (dm0 (by decide)) (fun r7 e => c_m_refuse Θ.1.2.1 (cW Θ) (cAd Θ) (cN Θ) σ (-4 : Int32) r7 e) rfl rfl (Nat.le_of_ble_eq_true rfl) ⟨rfl, rfl, by decide, by decide⟩ (fun r7 h8 => ?_)
          exact r_iret C dX12_post_40 rfl rfl trivial
        · refine r_iload C dX12_post_29 rfl ?_
          refine r_if_ge C 41 dX12_post_31 (by decide) ?_ ?_
          · refine r_iload_n C dX12_post_41 rfl ?_
            refine r_bipush C (7 : Int32) dX12_post_42 (by decide) ?_
            refine r_icmp_gt C 77 dX12_post_44 (by decide) ?_ ?_
            · refine r_aload_n C dX12_post_77 rfl ?_
              refine r_bipush C (-6 : Int32) dX12_post_78 (by decide) ?_
              refine r_callV C (st := []) (As := [.int (-6 : Int32)]) (d := 0) (j := 0) dX12_post_80 ml_X12_174 vw_X12_refuse ⟨_, _, _, _, rfl, rfl⟩ (dm0 (by decide)) (fun r9 e => c_m_refuse Θ.1.2.1 (cW Θ) (cAd Θ) (cN Θ) σ (-6 : Int32) r9 e) rfl rfl (Nat.le_of_ble_eq_true rfl) ⟨rfl, rfl, by decide, by decide⟩ (fun r9 h10 => ?_)
              exact r_iret C dX12_post_83 rfl rfl trivial
            · refine r_iload_n C dX12_post_47 rfl ?_
              refine r_bipush C (9 : Int32) dX12_post_48 (by decide) ?_
              refine r_icmp_gt C 77 dX12_post_50 (by decide) ?_ ?_
              · refine r_aload_n C dX12_post_77 rfl ?_
                refine r_bipush C (-6 : Int32) dX12_post_78 (by decide) ?_
                refine r_callV C (st := []) (As := [.int (-6 : Int32)]) (d := 0) (j := 0) dX12_post_80 ml_X12_174 vw_X12_refuse ⟨_, _, _, _, rfl, rfl⟩ (dm0 (by decide)) (fun r11 e => c_m_refuse Θ.1.2.1 (cW Θ) (cAd Θ) (cN Θ) σ (-6 : Int32) r11 e) rfl rfl (Nat.le_of_ble_eq_true rfl) ⟨rfl, rfl, by decide, by decide⟩ (fun r11 h12 => ?_)
                exact r_iret C dX12_post_83 rfl rfl trivial
              · refine r_iload C dX12_post_53 rfl ?_
                refine r_bipush C (40 : Int32) dX12_post_55 (by decide) ?_
                refine r_icmp_gt C 77 dX12_post_57 (by decide) ?_ ?_
                · refine r_aload_n C dX12_post_77 rfl ?_
                  refine r_bipush C (-6 : Int32) dX12_post_78 (by decide) ?_
                  refine r_callV C (st := []) (As := [.int (-6 : Int32)]) (d := 0) (j := 0) dX12_post_80 ml_X12_174 vw_X12_refuse ⟨_, _, _, _, rfl, rfl⟩ (dm0 (by decide)) (fun r13 e => c_m_refuse Θ.1.2.1 (cW Θ) (cAd Θ) (cN Θ) σ (-6 : Int32) r13 e) rfl rfl (Nat.le_of_ble_eq_true rfl) ⟨rfl, rfl, by decide, by decide⟩ (fun r13 h14 => ?_)
                  exact r_iret C dX12_post_83 rfl rfl trivial
                · refine r_iload C dX12_post_60 rfl ?_
                  refine r_sipush C (1023 : Int32) dX12_post_62 (by decide) ?_
                  refine r_icmp_gt C 77 dX12_post_65 (by decide) ?_ ?_
                  · refine r_aload_n C dX12_post_77 rfl ?_
                    refine r_bipush C (-6 : Int32) dX12_post_78 (by decide) ?_
                    refine r_callV C (st := []) (As := [.int (-6 : Int32)]) (d := 0) (j := 0) dX12_post_80 ml_X12_174 vw_X12_refuse ⟨_, _, _, _, rfl, rfl⟩ (dm0 (by decide)) (fun r15 e => c_m_refuse Θ.1.2.1 (cW Θ) (cAd Θ) (cN Θ) σ (-6 : Int32) r15 e) rfl rfl (Nat.le_of_ble_eq_true rfl) ⟨rfl, rfl, by decide, by decide⟩ (fun r15 h16 => ?_)
                    exact r_iret C dX12_post_83 rfl rfl trivial
                  · refine r_aload_n C dX12_post_68 rfl ?_
                    refine r_getI0 C dX12_post_69 fg_X12_161 (by decide) ?_
                    refine r_bipush C (40 : Int32) dX12_post_72 (by decide) ?_
                    refine r_icmp_ne C 84 dX12_post_74 (by decide) ?_ ?_
                    · refine r_aload_n C dX12_post_84 rfl ?_
                      refine r_getF0 C dX12_post_85 fg_X12_16 (by decide) ?_
                      refine r_aload_n C dX12_post_88 rfl ?_
                      refine r_getI0 C dX12_post_89 fg_X12_161 (by decide) ?_
                      refine r_iload_n C dX12_post_92 rfl ?_
                      refine r_iast C dX12_post_93 ag_LM_3 (fun i17 => ?_)
                      refine WA.gen (fun σ18 => ?_)
                      refine r_aload_n C dX12_post_94 rfl ?_
                      refine r_getF0 C dX12_post_95 fg_X12_19 (by decide) ?_
                      refine r_aload_n C dX12_post_98 rfl ?_
                      refine r_getI0 C dX12_post_99 fg_X12_161 (by decide) ?_
                      refine r_iload_n C dX12_post_102 rfl ?_
                      refine r_iast C dX12_post_103 ag_LM_4 (fun i19 => ?_)
                      refine WA.gen (fun σ20 => ?_)
                      refine r_aload_n C dX12_post_104 rfl ?_
                      refine r_getF0 C dX12_post_105 fg_X12_22 (by decide) ?_
                      refine r_aload_n C dX12_post_108 rfl ?_
                      refine r_getI0 C dX12_post_109 fg_X12_161 (by decide) ?_
                      refine r_iload_n C dX12_post_112 rfl ?_
                      refine r_iast C dX12_post_113 ag_LM_5 (fun i21 => ?_)
                      refine WA.gen (fun σ22 => ?_)
                      refine r_aload_n C dX12_post_114 rfl ?_
                      refine r_getF0 C dX12_post_115 fg_X12_25 (by decide) ?_
                      refine r_aload_n C dX12_post_118 rfl ?_
                      refine r_getI0 C dX12_post_119 fg_X12_161 (by decide) ?_
                      refine r_iload C dX12_post_122 rfl ?_
                      refine r_iast C dX12_post_124 ag_LM_6 (fun i23 => ?_)
                      refine WA.gen (fun σ24 => ?_)
                      refine r_aload_n C dX12_post_125 rfl ?_
                      refine r_getF0 C dX12_post_126 fg_X12_28 (by decide) ?_
                      refine r_aload_n C dX12_post_129 rfl ?_
                      refine r_getI0 C dX12_post_130 fg_X12_161 (by decide) ?_
                      refine r_iload C dX12_post_133 rfl ?_
                      refine r_iast C dX12_post_135 ag_LM_7 (fun i25 => ?_)
                      refine WA.gen (fun σ26 => ?_)
                      refine r_aload_n C dX12_post_136 rfl ?_
                      refine r_getF0 C dX12_post_137 fg_X12_31 (by decide) ?_
                      refine r_aload_n C dX12_post_140 rfl ?_
                      refine r_getI0 C dX12_post_141 fg_X12_161 (by decide) ?_
                      refine r_iconst C (-1 : Int32) dX12_post_144 (by decide) ?_
                      refine r_iast C dX12_post_145 ag_LM_8 (fun i27 => ?_)
                      refine WA.gen (fun σ28 => ?_)
                      refine r_aload_n C dX12_post_146 rfl ?_
                      refine r_dup C dX12_post_147 rfl ?_
                      refine r_getI0 C dX12_post_148 fg_X12_161 (by decide) ?_
                      refine r_iconst C (1 : Int32) dX12_post_151 (by decide) ?_
                      refine r_iadd C dX12_post_152 ?_
                      refine r_putI0 C dX12_post_153 fp_X12_161 (by decide) ?_
                      refine WA.gen (fun σ29 => ?_)
                      refine r_aload_n C dX12_post_156 rfl ?_
                      refine r_getI0 C dX12_post_157 fg_X12_161 (by decide) ?_
                      refine r_iconst C (1 : Int32) dX12_post_160 (by decide) ?_
                      refine r_isub C dX12_post_161 ?_
                      exact r_iret C dX12_post_162 rfl rfl trivial
                    · refine r_aload_n C dX12_post_77 rfl ?_
                      refine r_bipush C (-6 : Int32) dX12_post_78 (by decide) ?_
                      refine r_callV C (st := []) (As := [.int (-6 : Int32)]) (d := 0) (j := 0) dX12_post_80 ml_X12_174 vw_X12_refuse ⟨_, _, _, _, rfl, rfl⟩ (dm0 (by decide)) (fun r30 e => c_m_refuse Θ.1.2.1 (cW Θ) (cAd Θ) (cN Θ) σ (-6 : Int32) r30 e) rfl rfl (Nat.le_of_ble_eq_true rfl) ⟨rfl, rfl, by decide, by decide⟩ (fun r30 h31 => ?_)
                      exact r_iret C dX12_post_83 rfl rfl trivial
          · refine r_aload_n C dX12_post_34 rfl ?_
            refine r_bipush C (-4 : Int32) dX12_post_35 (by decide) ?_
            refine r_callV C (st := []) (As := [.int (-4 : Int32)]) (d := 0) (j := 0) dX12_post_37 ml_X12_174 vw_X12_refuse ⟨_, _, _, _, rfl, rfl⟩ (dm0 (by decide)) (fun r32 e => c_m_refuse Θ.1.2.1 (cW Θ) (cAd Θ) (cN Θ) σ (-4 : Int32) r32 e) rfl rfl (Nat.le_of_ble_eq_true rfl) ⟨rfl, rfl, by decide, by decide⟩ (fun r32 h33 => ?_)
            exact r_iret C dX12_post_40 rfl rfl trivial
  · refine r_aload_n C dX12_post_8 rfl ?_
    refine r_iconst C (-1 : Int32) dX12_post_9 (by decide) ?_
    refine r_callV C (st := []) (As := [.int (-1 : Int32)]) (d := 0) (j := 0) dX12_post_10 ml_X12_174 vw_X12_refuse ⟨_, _, _, _, rfl, rfl⟩ (dm0 (by decide)) (fun r34 e => c_m_refuse Θ.1.2.1 (cW Θ) (cAd Θ) (cN Θ) σ (-1 : Int32) r34 e) rfl rfl (Nat.le_of_ble_eq_true rfl) ⟨rfl, rfl, by decide, by decide⟩ (fun r34 h35 => ?_)
    exact r_iret C dX12_post_13 rfl rfl trivial
theorem c_m_post (l : Launch) (ω : Wd) (ad : Nat → Nat → Nat) (N : Nat → Nat) (σ : St) (a1 : Int32) (a2 : Int32) (a3 : Int32) (a4 : Int32) (a5 : Int32) : ∀ r : Int32 × St, m_post σ a1 a2 a3 a4 a5 = some r → Ct l yX12_post cX12_post 6 (some .int) ({ frames := 2, cells := 0, slots := 0, locals := 43 } : Room) LM ω ad N [.ref (ω.2.1 0), .int a1, .int a2, .int a3, .int a4, .int a5] σ (some (.int r.1)) r.2 (True) :=
  ct_of (o := fun r : Int32 × St => (some (.int r.1))) (s' := fun r => r.2) (P := fun r => True) [some (.ref (ω.2.1 0)), some (.int a1), some (.int a2), some (.int a3), some (.int a4), some (.int a5)] (by decide) rfl (Nat.le_of_ble_eq_true rfl) (fun Γ C _ _ => w_m_post (Γ, ω, 6, ad, N, 0, 0) σ a1 a2 a3 a4 a5 C)
theorem ag_LM_13 : AG LM 13 0 40 := ⟨by decide, rfl⟩
theorem fg_X12_46 : FG LM RX12 46 0 0 16 (1, 13) := ⟨_, _, _, _, _, rfl, rfl, rfl, by decide, uw_X12, (in_wt 1250 (by decide +kernel) (by decide +kernel))⟩
/-- PostsEndModel.private void drop(int) -/
def m_drop (σ : St) (a1 : Int32) : Option St := (Option.bind (ix 40 a1) fun i1 => (Option.bind (α := Int32) ((if σ.1 0 12 i1 < 0 then (Option.bind (ix 40 a1) fun i9 => some (σ.1 0 13 i9)) else (Option.bind (ix 40 a1) fun i10 => some (σ.1 0 12 i10)))) fun t2 => (Option.bind (ix 40 a1) fun i5 => (lt1 (sx σ 0 13 i5 t2) fun σ6 => (Option.bind (ix 40 a1) fun i7 => (lt1 (sx σ6 0 12 i7 (-1 : Int32)) fun σ8 => some σ8))))))
set_option maxRecDepth 20000 in
set_option maxHeartbeats 4000000 in
theorem w_m_drop (Θ : TT) (σ : St) (a1 : Int32) (C : CX Θ cX12_drop RX12 none ({ frames := 0, cells := 0, slots := 0, locals := 0 } : Room) 2) : WA LM Θ (fun r : St => Qm LM Θ none r (True)) 0 [some (.ref (cF Θ 0)), some (.int a1)] [] σ (m_drop σ a1) := by
  unfold m_drop
  refine r_aload_n C dX12_drop_0 rfl ?_
  refine r_getF0 C dX12_drop_1 fg_X12_46 (by decide) ?_
  refine r_iload_n C dX12_drop_4 rfl ?_
  refine r_aload_n C dX12_drop_5 rfl ?_
  refine r_getF0 C dX12_drop_6 fg_X12_43 (by decide) ?_
  refine r_iload_n C dX12_drop_9 rfl ?_
  refine r_iald (α := Unit) C dX12_drop_10 ag_LM_12 (fun i1 => ?_)
  refine WA.join (α := Int32) 29 (fun t2 => [some (.ref (cF Θ 0)), some (.int a1)]) (fun t2 => [.int t2, .int a1, .ref (cF Θ 13)]) (fun t2 => σ) (fun t2 => True) (fun t2 h3 => ?_) (fun J4 => ?_)
  · refine r_iast C dX12_drop_29 ag_LM_13 (fun i5 => ?_)
    refine WA.gen (fun σ6 => ?_)
    refine r_aload_n C dX12_drop_30 rfl ?_
    refine r_getF0 C dX12_drop_31 fg_X12_43 (by decide) ?_
    refine r_iload_n C dX12_drop_34 rfl ?_
    refine r_iconst C (-1 : Int32) dX12_drop_35 (by decide) ?_
    refine r_iast C dX12_drop_36 ag_LM_12 (fun i7 => ?_)
    refine WA.gen (fun σ8 => ?_)
    exact r_vret C dX12_drop_37 rfl rfl trivial
  · refine WA.bif ?_
    refine r_if_lt C 23 dX12_drop_11 (by decide) ?_ ?_
    · refine r_aload_n C dX12_drop_23 rfl ?_
      refine r_getF0 C dX12_drop_24 fg_X12_46 (by decide) ?_
      refine r_iload_n C dX12_drop_27 rfl ?_
      refine WA.asc ?_
      refine r_iald (α := Unit) C dX12_drop_28 ag_LM_13 (fun i9 => ?_)
      refine WA.wk (lv' := [some (.ref (cF Θ 0)), some (.int a1)]) [true, true] rfl ?_
      exact J4 (σ.1 0 13 i9) trivial
    · refine r_aload_n C dX12_drop_14 rfl ?_
      refine r_getF0 C dX12_drop_15 fg_X12_43 (by decide) ?_
      refine r_iload_n C dX12_drop_18 rfl ?_
      refine WA.asc ?_
      refine r_iald (α := Unit) C dX12_drop_19 ag_LM_12 (fun i10 => ?_)
      refine r_goto C 29 dX12_drop_20 (by decide) ?_
      refine WA.wk (lv' := [some (.ref (cF Θ 0)), some (.int a1)]) [true, true] rfl ?_
      exact J4 (σ.1 0 12 i10) trivial
theorem c_m_drop (l : Launch) (ω : Wd) (ad : Nat → Nat → Nat) (N : Nat → Nat) (σ : St) (a1 : Int32) : ∀ r : St, m_drop σ a1 = some r → Ct l yX12_drop cX12_drop 2 none ({ frames := 0, cells := 0, slots := 0, locals := 0 } : Room) LM ω ad N [.ref (ω.2.1 0), .int a1] σ none r (True) :=
  ct_of (o := fun r : St => none) (s' := fun r => r) (P := fun r => True) [some (.ref (ω.2.1 0)), some (.int a1)] (by decide) rfl (Nat.le_of_ble_eq_true rfl) (fun Γ C _ _ => w_m_drop (Γ, ω, 2, ad, N, 0, 0) σ a1 C)
theorem vw_X12_drop : VW yX12_drop cX12_drop 2 none 1 := ⟨⟨(in_wt 88 (by decide +kernel) (by decide +kernel)), (in_wt 1472 (by decide +kernel) (by decide +kernel)), by decide +kernel⟩, (in_wt 1471 (by decide +kernel) (by decide +kernel)), (in_wt 44 (by decide +kernel) (by decide +kernel))⟩
theorem vw_X12_isPost : VW yX12_isPost cX12_isPost 2 (some .boolean) 1 := ⟨⟨(in_wt 88 (by decide +kernel) (by decide +kernel)), (in_wt 1464 (by decide +kernel) (by decide +kernel)), by decide +kernel⟩, (in_wt 1463 (by decide +kernel) (by decide +kernel)), (in_wt 42 (by decide +kernel) (by decide +kernel))⟩
theorem ml_X12_181 : Cond.methodLink RX12 181 yX12_isPost ∈ wt := in_wt 1461 (by decide +kernel) (by decide +kernel)
theorem ml_X12_184 : Cond.methodLink RX12 184 yX12_drop ∈ wt := in_wt 1469 (by decide +kernel) (by decide +kernel)
/-- PostsEndModel.public int end(int) -/
def m_end (σ : St) (a1 : Int32) : Option (Int32 × St) := (Option.bind (m_isPost σ a1) fun r1 => (if r1 = 0 then (Option.bind (m_refuse σ (-1 : Int32)) fun r15 => some (r15.1, r15.2)) else (Option.bind (ix 40 a1) fun i3 => (if σ.1 0 8 i3 < 0 then (Option.bind (ix 40 a1) fun i4 => (lt1 (sx σ 0 8 i4 (σ.1 0 0 0)) fun σ5 => (Option.bind (m_holder σ5 a1) fun r6 => (Option.bind (α := St) ((if r6 < 0 then some σ5 else (Option.bind (m_drop σ5 r6) fun r11 => some r11))) fun t8 => some ((1 : Int32), t8))))) else (Option.bind (m_refuse σ (-3 : Int32)) fun r13 => some (r13.1, r13.2))))))
set_option maxRecDepth 20000 in
set_option maxHeartbeats 4000000 in
theorem w_m_end (Θ : TT) (σ : St) (a1 : Int32) (C : CX Θ cX12_end RX12 (some .int) ({ frames := 2, cells := 0, slots := 0, locals := 43 } : Room) 3) : WA LM Θ (fun r : Int32 × St => Qm LM Θ (some (.int r.1)) r.2 (True)) 0 [some (.ref (cF Θ 0)), some (.int a1), none] [] σ (m_end σ a1) := by
  unfold m_end
  refine r_aload_n C dX12_end_0 rfl ?_
  refine r_iload_n C dX12_end_1 rfl ?_
  refine r_callV C (st := []) (As := [.int a1]) (d := 0) (j := 0) dX12_end_2 ml_X12_181 vw_X12_isPost ⟨_, _, _, _, rfl, rfl⟩ (dm0 (by decide)) (fun r1 e => c_m_isPost Θ.1.2.1 (cW Θ) (cAd Θ) (cN Θ) σ a1 r1 e) rfl rfl (Nat.le_of_ble_eq_true rfl) ⟨rfl, rfl, by decide, by decide⟩ (fun r1 h2 => ?_)
  refine r_if_ne C 14 dX12_end_5 (by decide) ?_ ?_
  · refine r_aload_n C dX12_end_14 rfl ?_
    refine r_getF0 C dX12_end_15 fg_X12_31 (by decide) ?_
    refine r_iload_n C dX12_end_18 rfl ?_
    refine r_iald (α := Unit) C dX12_end_19 ag_LM_8 (fun i3 => ?_)
    refine r_if_lt C 30 dX12_end_20 (by decide) ?_ ?_
    · refine r_aload_n C dX12_end_30 rfl ?_
      refine r_getF0 C dX12_end_31 fg_X12_31 (by decide) ?_
      refine r_iload_n C dX12_end_34 rfl ?_
      refine r_aload_n C dX12_end_35 rfl ?_
      refine r_getI0 C dX12_end_36 fg_X12_167 (by decide) ?_
      refine r_iast C dX12_end_39 ag_LM_8 (fun i4 => ?_)
      refine WA.gen (fun σ5 => ?_)
      refine r_aload_n C dX12_end_40 rfl ?_
      refine r_iload_n C dX12_end_41 rfl ?_
      refine r_callV C (st := []) (As := [.int a1]) (d := 0) (j := 0) dX12_end_42 ml_X12_170 vw_X12_holder ⟨_, _, _, _, rfl, rfl⟩ (dm0 (by decide)) (fun r6 e => c_m_holder Θ.1.2.1 (cW Θ) (cAd Θ) (cN Θ) σ5 a1 r6 e) rfl rfl (Nat.le_of_ble_eq_true rfl) ⟨rfl, rfl, by decide, by decide⟩ (fun r6 h7 => ?_)
      refine r_istore_n C [some (.ref (cF Θ 0)), some (.int a1), some (.int r6)] dX12_end_45 rfl (by decide) rfl ?_
      refine r_iload_n C dX12_end_46 rfl ?_
      refine WA.join (α := St) 55 (fun t8 => [none, none, none]) (fun t8 => []) (fun t8 => t8) (fun t8 => True) (fun t8 h9 => ?_) (fun J10 => ?_)
      · refine r_iconst C (1 : Int32) dX12_end_55 (by decide) ?_
        exact r_iret C dX12_end_56 rfl rfl trivial
      · refine WA.bif ?_
        refine r_if_lt C 55 dX12_end_47 (by decide) ?_ ?_
        · refine WA.wk (lv' := [none, none, none]) [false, false, false] rfl ?_
          exact J10 σ5 trivial
        · refine r_aload_n C dX12_end_50 rfl ?_
          refine r_iload_n C dX12_end_51 rfl ?_
          refine WA.asc ?_
          refine r_callV C (st := []) (As := [.int r6]) (d := 0) (j := 0) dX12_end_52 ml_X12_184 vw_X12_drop ⟨_, _, _, _, rfl, rfl⟩ (dm0 (by decide)) (fun r11 e => c_m_drop Θ.1.2.1 (cW Θ) (cAd Θ) (cN Θ) σ5 r6 r11 e) rfl rfl (Nat.le_of_ble_eq_true rfl) ⟨rfl, rfl, by decide, by decide⟩ (fun r11 h12 => ?_)
          refine WA.wk (lv' := [none, none, none]) [false, false, false] rfl ?_
          exact J10 r11 trivial
    · refine r_aload_n C dX12_end_23 rfl ?_
      refine r_bipush C (-3 : Int32) dX12_end_24 (by decide) ?_
      refine r_callV C (st := []) (As := [.int (-3 : Int32)]) (d := 0) (j := 0) dX12_end_26 ml_X12_174 vw_X12_refuse ⟨_, _, _, _, rfl, rfl⟩ (dm0 (by decide)) (fun r13 e => c_m_refuse Θ.1.2.1 (cW Θ) (cAd Θ) (cN Θ) σ (-3 : Int32) r13 e) rfl rfl (Nat.le_of_ble_eq_true rfl) ⟨rfl, rfl, by decide, by decide⟩ (fun r13 h14 => ?_)
      exact r_iret C dX12_end_29 rfl rfl trivial
  · refine r_aload_n C dX12_end_8 rfl ?_
    refine r_iconst C (-1 : Int32) dX12_end_9 (by decide) ?_
    refine r_callV C (st := []) (As := [.int (-1 : Int32)]) (d := 0) (j := 0) dX12_end_10 ml_X12_174 vw_X12_refuse ⟨_, _, _, _, rfl, rfl⟩ (dm0 (by decide)) (fun r15 e => c_m_refuse Θ.1.2.1 (cW Θ) (cAd Θ) (cN Θ) σ (-1 : Int32) r15 e) rfl rfl (Nat.le_of_ble_eq_true rfl) ⟨rfl, rfl, by decide, by decide⟩ (fun r15 h16 => ?_)
    exact r_iret C dX12_end_13 rfl rfl trivial
theorem c_m_end (l : Launch) (ω : Wd) (ad : Nat → Nat → Nat) (N : Nat → Nat) (σ : St) (a1 : Int32) : ∀ r : Int32 × St, m_end σ a1 = some r → Ct l yX12_end cX12_end 3 (some .int) ({ frames := 2, cells := 0, slots := 0, locals := 43 } : Room) LM ω ad N [.ref (ω.2.1 0), .int a1] σ (some (.int r.1)) r.2 (True) :=
  ct_of (o := fun r : Int32 × St => (some (.int r.1))) (s' := fun r => r.2) (P := fun r => True) [some (.ref (ω.2.1 0)), some (.int a1), none] (by decide) rfl (Nat.le_of_ble_eq_true rfl) (fun Γ C _ _ => w_m_end (Γ, ω, 3, ad, N, 0, 0) σ a1 C)
theorem fg_X12_188 : FG LM RX12 188 0 0 21 (0, 0) := ⟨_, _, _, _, _, rfl, rfl, rfl, by decide, uw_X12, (in_wt 1255 (by decide +kernel) (by decide +kernel))⟩
theorem fg_X12_58 : FG LM RX12 58 0 0 20 (0, 0) := ⟨_, _, _, _, _, rfl, rfl, rfl, by decide, uw_X12, (in_wt 1254 (by decide +kernel) (by decide +kernel))⟩
theorem fg_X12_62 : FG LM RX12 62 0 0 22 (0, 0) := ⟨_, _, _, _, _, rfl, rfl, rfl, by decide, uw_X12, (in_wt 1256 (by decide +kernel) (by decide +kernel))⟩
theorem fp_X12_188 : FP LM RX12 188 0 0 21 (0, 0) .int := ⟨_, _, _, _, _, tyX12, rfl, rfl, rfl, by decide, uw_X12, (in_wt 1255 (by decide +kernel) (by decide +kernel)), tyX12_ok, nmX12, rfl, by decide +kernel⟩
theorem fp_X12_58 : FP LM RX12 58 0 0 20 (0, 0) .int := ⟨_, _, _, _, _, tyX12, rfl, rfl, rfl, by decide, uw_X12, (in_wt 1254 (by decide +kernel) (by decide +kernel)), tyX12_ok, nmX12, rfl, by decide +kernel⟩
theorem fp_X12_62 : FP LM RX12 62 0 0 22 (0, 0) .int := ⟨_, _, _, _, _, tyX12, rfl, rfl, rfl, by decide, uw_X12, (in_wt 1256 (by decide +kernel) (by decide +kernel)), tyX12_ok, nmX12, rfl, by decide +kernel⟩
/-- PostsEndModel.public int set(int, int) -/
def m_set (σ : St) (a1 : Int32) (a2 : Int32) : Option (Int32 × St) := (Option.bind (m_in a1 (0 : Int32) (2 : Int32)) fun r1 => (if r1 = 0 then (Option.bind (m_refuse σ (-2 : Int32)) fun r28 => some (r28.1, r28.2)) else (Option.bind (α := Int32) ((if a1 = (2 : Int32) then some (100 : Int32) else some (0 : Int32))) fun t3 => (if a2 < t3 then (Option.bind (m_refuse σ (-4 : Int32)) fun r26 => some (r26.1, r26.2)) else (Option.bind (α := Int32) ((if a1 = 0 then some (10 : Int32) else (if a1 = (1 : Int32) then some (5 : Int32) else some (9999 : Int32)))) fun t6 => (if t6 < a2 then (Option.bind (m_refuse σ (-6 : Int32)) fun r24 => some (r24.1, r24.2)) else (Option.bind (α := Int32) ((if a1 = 0 then some (σ.1 0 0 20) else (if a1 = (1 : Int32) then some (σ.1 0 0 21) else some (σ.1 0 0 22)))) fun t9 => (Option.bind (α := Int32) ((if a1 = 0 then some a2 else some (σ.1 0 0 20))) fun t12 => (lt1 (sx σ 0 0 20 t12) fun σ15 => (Option.bind (α := Int32) ((if a1 = (1 : Int32) then some a2 else some (σ15.1 0 0 21))) fun t16 => (lt1 (sx σ15 0 0 21 t16) fun σ19 => (Option.bind (α := Int32) ((if a1 = (2 : Int32) then some a2 else some (σ19.1 0 0 22))) fun t20 => (lt1 (sx σ19 0 0 22 t20) fun σ23 => some (t9, σ23))))))))))))))
set_option maxRecDepth 20000 in
set_option maxHeartbeats 4000000 in
theorem w_m_set (Θ : TT) (σ : St) (a1 : Int32) (a2 : Int32) (C : CX Θ cX12_set RX12 (some .int) ({ frames := 1, cells := 0, slots := 0, locals := 22 } : Room) 4) : WA LM Θ (fun r : Int32 × St => Qm LM Θ (some (.int r.1)) r.2 (True)) 0 [some (.ref (cF Θ 0)), some (.int a1), some (.int a2), none] [] σ (m_set σ a1 a2) := by
  unfold m_set
  refine r_iload_n C dX12_set_0 rfl ?_
  refine r_iconst C (0 : Int32) dX12_set_1 (by decide) ?_
  refine r_iconst C (2 : Int32) dX12_set_2 (by decide) ?_
  refine r_callS C (st := []) (As := [.int a1, .int (0 : Int32), .int (2 : Int32)]) dX12_set_3 ml_X12_157 sw_X12_in (fun r1 e => c_m_in Θ.1.2.1 (cW Θ) (cAd Θ) (cN Θ) σ a1 (0 : Int32) (2 : Int32) r1 e) rfl rfl (Nat.le_of_ble_eq_true rfl) ⟨rfl, rfl, by decide, by decide⟩ (fun r1 h2 => ?_)
  refine r_if_ne C 16 dX12_set_6 (by decide) ?_ ?_
  · refine r_iload_n C dX12_set_16 rfl ?_
    refine r_iload_n C dX12_set_17 rfl ?_
    refine r_iconst C (2 : Int32) dX12_set_18 (by decide) ?_
    refine WA.join (α := Int32) 28 (fun t3 => [some (.ref (cF Θ 0)), some (.int a1), some (.int a2), none]) (fun t3 => [.int t3, .int a2]) (fun t3 => σ) (fun t3 => True) (fun t3 h4 => ?_) (fun J5 => ?_)
    · refine r_icmp_ge C 38 dX12_set_28 (by decide) ?_ ?_
      · refine r_iload_n C dX12_set_38 rfl ?_
        refine r_iload_n C dX12_set_39 rfl ?_
        refine WA.join (α := Int32) 60 (fun t6 => [some (.ref (cF Θ 0)), some (.int a1), some (.int a2), none]) (fun t6 => [.int t6, .int a2]) (fun t6 => σ) (fun t6 => True) (fun t6 h7 => ?_) (fun J8 => ?_)
        · refine r_icmp_le C 70 dX12_set_60 (by decide) ?_ ?_
          · refine r_iload_n C dX12_set_70 rfl ?_
            refine WA.join (α := Int32) 97 (fun t9 => [some (.ref (cF Θ 0)), some (.int a1), some (.int a2), none]) (fun t9 => [.int t9]) (fun t9 => σ) (fun t9 => True) (fun t9 h10 => ?_) (fun J11 => ?_)
            · refine r_istore_n C [some (.ref (cF Θ 0)), some (.int a1), some (.int a2), some (.int t9)] dX12_set_97 rfl (by decide) rfl ?_
              refine r_aload_n C dX12_set_98 rfl ?_
              refine r_iload_n C dX12_set_99 rfl ?_
              refine WA.join (α := Int32) 111 (fun t12 => [some (.ref (cF Θ 0)), some (.int a1), some (.int a2), some (.int t9)]) (fun t12 => [.int t12, .ref (cF Θ 0)]) (fun t12 => σ) (fun t12 => True) (fun t12 h13 => ?_) (fun J14 => ?_)
              · refine r_putI0 C dX12_set_111 fp_X12_58 (by decide) ?_
                refine WA.gen (fun σ15 => ?_)
                refine r_aload_n C dX12_set_114 rfl ?_
                refine r_iload_n C dX12_set_115 rfl ?_
                refine r_iconst C (1 : Int32) dX12_set_116 (by decide) ?_
                refine WA.join (α := Int32) 128 (fun t16 => [some (.ref (cF Θ 0)), some (.int a1), some (.int a2), some (.int t9)]) (fun t16 => [.int t16, .ref (cF Θ 0)]) (fun t16 => σ15) (fun t16 => True) (fun t16 h17 => ?_) (fun J18 => ?_)
                · refine r_putI0 C dX12_set_128 fp_X12_188 (by decide) ?_
                  refine WA.gen (fun σ19 => ?_)
                  refine r_aload_n C dX12_set_131 rfl ?_
                  refine r_iload_n C dX12_set_132 rfl ?_
                  refine r_iconst C (2 : Int32) dX12_set_133 (by decide) ?_
                  refine WA.join (α := Int32) 145 (fun t20 => [none, none, none, some (.int t9)]) (fun t20 => [.int t20, .ref (cF Θ 0)]) (fun t20 => σ19) (fun t20 => True) (fun t20 h21 => ?_) (fun J22 => ?_)
                  · refine r_putI0 C dX12_set_145 fp_X12_62 (by decide) ?_
                    refine WA.gen (fun σ23 => ?_)
                    refine r_iload_n C dX12_set_148 rfl ?_
                    exact r_iret C dX12_set_149 rfl rfl trivial
                  · refine WA.bif ?_
                    refine r_icmp_ne C 141 dX12_set_134 (by decide) ?_ ?_
                    · refine r_aload_n C dX12_set_141 rfl ?_
                      refine r_getI0 C dX12_set_142 fg_X12_62 (by decide) ?_
                      refine WA.wk (lv' := [none, none, none, some (.int t9)]) [false, false, false, true] rfl ?_
                      exact J22 (σ19.1 0 0 22) trivial
                    · refine r_iload_n C dX12_set_137 rfl ?_
                      refine r_goto C 145 dX12_set_138 (by decide) ?_
                      refine WA.wk (lv' := [none, none, none, some (.int t9)]) [false, false, false, true] rfl ?_
                      exact J22 a2 trivial
                · refine WA.bif ?_
                  refine r_icmp_ne C 124 dX12_set_117 (by decide) ?_ ?_
                  · refine r_aload_n C dX12_set_124 rfl ?_
                    refine r_getI0 C dX12_set_125 fg_X12_188 (by decide) ?_
                    refine WA.wk (lv' := [some (.ref (cF Θ 0)), some (.int a1), some (.int a2), some (.int t9)]) [true, true, true, true] rfl ?_
                    exact J18 (σ15.1 0 0 21) trivial
                  · refine r_iload_n C dX12_set_120 rfl ?_
                    refine r_goto C 128 dX12_set_121 (by decide) ?_
                    refine WA.wk (lv' := [some (.ref (cF Θ 0)), some (.int a1), some (.int a2), some (.int t9)]) [true, true, true, true] rfl ?_
                    exact J18 a2 trivial
              · refine WA.bif ?_
                refine r_if_ne C 107 dX12_set_100 (by decide) ?_ ?_
                · refine r_aload_n C dX12_set_107 rfl ?_
                  refine r_getI0 C dX12_set_108 fg_X12_58 (by decide) ?_
                  refine WA.wk (lv' := [some (.ref (cF Θ 0)), some (.int a1), some (.int a2), some (.int t9)]) [true, true, true, true] rfl ?_
                  exact J14 (σ.1 0 0 20) trivial
                · refine r_iload_n C dX12_set_103 rfl ?_
                  refine r_goto C 111 dX12_set_104 (by decide) ?_
                  refine WA.wk (lv' := [some (.ref (cF Θ 0)), some (.int a1), some (.int a2), some (.int t9)]) [true, true, true, true] rfl ?_
                  exact J14 a2 trivial
            · refine WA.bif ?_
              refine r_if_ne C 81 dX12_set_71 (by decide) ?_ ?_
              · refine r_iload_n C dX12_set_81 rfl ?_
                refine r_iconst C (1 : Int32) dX12_set_82 (by decide) ?_
                refine WA.bif ?_
                refine r_icmp_ne C 93 dX12_set_83 (by decide) ?_ ?_
                · refine r_aload_n C dX12_set_93 rfl ?_
                  refine r_getI0 C dX12_set_94 fg_X12_62 (by decide) ?_
                  refine WA.wk (lv' := [some (.ref (cF Θ 0)), some (.int a1), some (.int a2), none]) [true, true, true, false] rfl ?_
                  exact J11 (σ.1 0 0 22) trivial
                · refine r_aload_n C dX12_set_86 rfl ?_
                  refine r_getI0 C dX12_set_87 fg_X12_188 (by decide) ?_
                  refine r_goto C 97 dX12_set_90 (by decide) ?_
                  refine WA.wk (lv' := [some (.ref (cF Θ 0)), some (.int a1), some (.int a2), none]) [true, true, true, false] rfl ?_
                  exact J11 (σ.1 0 0 21) trivial
              · refine r_aload_n C dX12_set_74 rfl ?_
                refine r_getI0 C dX12_set_75 fg_X12_58 (by decide) ?_
                refine r_goto C 97 dX12_set_78 (by decide) ?_
                refine WA.wk (lv' := [some (.ref (cF Θ 0)), some (.int a1), some (.int a2), none]) [true, true, true, false] rfl ?_
                exact J11 (σ.1 0 0 20) trivial
          · refine r_aload_n C dX12_set_63 rfl ?_
            refine r_bipush C (-6 : Int32) dX12_set_64 (by decide) ?_
            refine r_callV C (st := []) (As := [.int (-6 : Int32)]) (d := 0) (j := 0) dX12_set_66 ml_X12_174 vw_X12_refuse ⟨_, _, _, _, rfl, rfl⟩ (dm0 (by decide)) (fun r24 e => c_m_refuse Θ.1.2.1 (cW Θ) (cAd Θ) (cN Θ) σ (-6 : Int32) r24 e) rfl rfl (Nat.le_of_ble_eq_true rfl) ⟨rfl, rfl, by decide, by decide⟩ (fun r24 h25 => ?_)
            exact r_iret C dX12_set_69 rfl rfl trivial
        · refine WA.bif ?_
          refine r_if_ne C 48 dX12_set_40 (by decide) ?_ ?_
          · refine r_iload_n C dX12_set_48 rfl ?_
            refine r_iconst C (1 : Int32) dX12_set_49 (by decide) ?_
            refine WA.bif ?_
            refine r_icmp_ne C 57 dX12_set_50 (by decide) ?_ ?_
            · refine r_sipush C (9999 : Int32) dX12_set_57 (by decide) ?_
              refine WA.wk (lv' := [some (.ref (cF Θ 0)), some (.int a1), some (.int a2), none]) [true, true, true, false] rfl ?_
              exact J8 (9999 : Int32) trivial
            · refine r_iconst C (5 : Int32) dX12_set_53 (by decide) ?_
              refine r_goto C 60 dX12_set_54 (by decide) ?_
              refine WA.wk (lv' := [some (.ref (cF Θ 0)), some (.int a1), some (.int a2), none]) [true, true, true, false] rfl ?_
              exact J8 (5 : Int32) trivial
          · refine r_bipush C (10 : Int32) dX12_set_43 (by decide) ?_
            refine r_goto C 60 dX12_set_45 (by decide) ?_
            refine WA.wk (lv' := [some (.ref (cF Θ 0)), some (.int a1), some (.int a2), none]) [true, true, true, false] rfl ?_
            exact J8 (10 : Int32) trivial
      · refine r_aload_n C dX12_set_31 rfl ?_
        refine r_bipush C (-4 : Int32) dX12_set_32 (by decide) ?_
        refine r_callV C (st := []) (As := [.int (-4 : Int32)]) (d := 0) (j := 0) dX12_set_34 ml_X12_174 vw_X12_refuse ⟨_, _, _, _, rfl, rfl⟩ (dm0 (by decide)) (fun r26 e => c_m_refuse Θ.1.2.1 (cW Θ) (cAd Θ) (cN Θ) σ (-4 : Int32) r26 e) rfl rfl (Nat.le_of_ble_eq_true rfl) ⟨rfl, rfl, by decide, by decide⟩ (fun r26 h27 => ?_)
        exact r_iret C dX12_set_37 rfl rfl trivial
    · refine WA.bif ?_
      refine r_icmp_ne C 27 dX12_set_19 (by decide) ?_ ?_
      · refine r_iconst C (0 : Int32) dX12_set_27 (by decide) ?_
        refine WA.wk (lv' := [some (.ref (cF Θ 0)), some (.int a1), some (.int a2), none]) [true, true, true, false] rfl ?_
        exact J5 (0 : Int32) trivial
      · refine r_bipush C (100 : Int32) dX12_set_22 (by decide) ?_
        refine r_goto C 28 dX12_set_24 (by decide) ?_
        refine WA.wk (lv' := [some (.ref (cF Θ 0)), some (.int a1), some (.int a2), none]) [true, true, true, false] rfl ?_
        exact J5 (100 : Int32) trivial
  · refine r_aload_n C dX12_set_9 rfl ?_
    refine r_bipush C (-2 : Int32) dX12_set_10 (by decide) ?_
    refine r_callV C (st := []) (As := [.int (-2 : Int32)]) (d := 0) (j := 0) dX12_set_12 ml_X12_174 vw_X12_refuse ⟨_, _, _, _, rfl, rfl⟩ (dm0 (by decide)) (fun r28 e => c_m_refuse Θ.1.2.1 (cW Θ) (cAd Θ) (cN Θ) σ (-2 : Int32) r28 e) rfl rfl (Nat.le_of_ble_eq_true rfl) ⟨rfl, rfl, by decide, by decide⟩ (fun r28 h29 => ?_)
    exact r_iret C dX12_set_15 rfl rfl trivial
theorem c_m_set (l : Launch) (ω : Wd) (ad : Nat → Nat → Nat) (N : Nat → Nat) (σ : St) (a1 : Int32) (a2 : Int32) : ∀ r : Int32 × St, m_set σ a1 a2 = some r → Ct l yX12_set cX12_set 4 (some .int) ({ frames := 1, cells := 0, slots := 0, locals := 22 } : Room) LM ω ad N [.ref (ω.2.1 0), .int a1, .int a2] σ (some (.int r.1)) r.2 (True) :=
  ct_of (o := fun r : Int32 × St => (some (.int r.1))) (s' := fun r => r.2) (P := fun r => True) [some (.ref (ω.2.1 0)), some (.int a1), some (.int a2), none] (by decide) rfl (Nat.le_of_ble_eq_true rfl) (fun Γ C _ _ => w_m_set (Γ, ω, 4, ad, N, 0, 0) σ a1 a2 C)
theorem ag_LM_10 : AG LM 10 0 40 := ⟨by decide, rfl⟩
theorem ag_LM_11 : AG LM 11 0 40 := ⟨by decide, rfl⟩
theorem ag_LM_16 : AG LM 16 0 40 := ⟨by decide, rfl⟩
theorem ag_LM_9 : AG LM 9 0 40 := ⟨by decide, rfl⟩
theorem vw_X12_isVacant : VW yX12_isVacant cX12_isVacant 2 (some .boolean) 1 := ⟨⟨(in_wt 88 (by decide +kernel) (by decide +kernel)), (in_wt 1484 (by decide +kernel) (by decide +kernel)), by decide +kernel⟩, (in_wt 1483 (by decide +kernel) (by decide +kernel)), (in_wt 45 (by decide +kernel) (by decide +kernel))⟩
theorem fg_X12_34 : FG LM RX12 34 0 0 12 (1, 9) := ⟨_, _, _, _, _, rfl, rfl, rfl, by decide, uw_X12, (in_wt 1246 (by decide +kernel) (by decide +kernel))⟩
theorem fg_X12_37 : FG LM RX12 37 0 0 13 (1, 10) := ⟨_, _, _, _, _, rfl, rfl, rfl, by decide, uw_X12, (in_wt 1247 (by decide +kernel) (by decide +kernel))⟩
theorem fg_X12_40 : FG LM RX12 40 0 0 14 (1, 11) := ⟨_, _, _, _, _, rfl, rfl, rfl, by decide, uw_X12, (in_wt 1248 (by decide +kernel) (by decide +kernel))⟩
theorem fg_X12_55 : FG LM RX12 55 0 0 19 (1, 16) := ⟨_, _, _, _, _, rfl, rfl, rfl, by decide, uw_X12, (in_wt 1253 (by decide +kernel) (by decide +kernel))⟩
theorem fp_X12_164 : FP LM RX12 164 0 0 11 (0, 0) .int := ⟨_, _, _, _, _, tyX12, rfl, rfl, rfl, by decide, uw_X12, (in_wt 1245 (by decide +kernel) (by decide +kernel)), tyX12_ok, nmX12, rfl, by decide +kernel⟩
theorem ml_X12_191 : Cond.methodLink RX12 191 yX12_isVacant ∈ wt := in_wt 1481 (by decide +kernel) (by decide +kernel)
/-- PostsEndModel.public int person(int, int, int, int) -/
def m_person (σ : St) (a1 : Int32) (a2 : Int32) (a3 : Int32) (a4 : Int32) : Option (Int32 × St) := (if a1 = (-1 : Int32) then (if a1 < 0 then (if a2 < 0 then (Option.bind (m_refuse σ (-4 : Int32)) fun r1 => some (r1.1, r1.2)) else (if a3 < (-20000 : Int32) then (Option.bind (m_refuse σ (-4 : Int32)) fun r3 => some (r3.1, r3.2)) else (if a4 < (100 : Int32) then (Option.bind (m_refuse σ (-4 : Int32)) fun r30 => some (r30.1, r30.2)) else (if (1023 : Int32) < a2 then (Option.bind (m_refuse σ (-6 : Int32)) fun r5 => some (r5.1, r5.2)) else (if σ.1 0 0 0 < a3 then (Option.bind (m_refuse σ (-6 : Int32)) fun r7 => some (r7.1, r7.2)) else (if (9999 : Int32) < a4 then (Option.bind (m_refuse σ (-6 : Int32)) fun r9 => some (r9.1, r9.2)) else (if σ.1 0 0 11 = (40 : Int32) then (Option.bind (m_refuse σ (-6 : Int32)) fun r28 => some (r28.1, r28.2)) else (Option.bind (ix 40 (σ.1 0 0 11)) fun i11 => (lt1 (sx σ 0 12 i11 a1) fun σ12 => (Option.bind (ix 40 (σ12.1 0 0 11)) fun i13 => (lt1 (sx σ12 0 13 i13 (-1 : Int32)) fun σ14 => (Option.bind (ix 40 (σ14.1 0 0 11)) fun i15 => (lt1 (sx σ14 0 9 i15 a2) fun σ16 => (Option.bind (ix 40 (σ16.1 0 0 11)) fun i17 => (lt1 (sx σ16 0 10 i17 a3) fun σ18 => (Option.bind (ix 40 (σ18.1 0 0 11)) fun i19 => (lt1 (sx σ18 0 11 i19 a4) fun σ20 => (Option.bind (ix 40 (σ20.1 0 0 11)) fun i21 => (lt1 (sx σ20 0 14 i21 (-1 : Int32)) fun σ22 => (Option.bind (ix 40 (σ22.1 0 0 11)) fun i23 => (lt1 (sx σ22 0 15 i23 (-1 : Int32)) fun σ24 => (Option.bind (ix 40 (σ24.1 0 0 11)) fun i25 => (lt1 (sx σ24 0 16 i25 (-1 : Int32)) fun σ26 => (lt1 (sx σ26 0 0 11 ((σ26.1 0 0 11) + (1 : Int32))) fun σ27 => some ((σ27.1 0 0 11) - (1 : Int32), σ27))))))))))))))))))))))))) else (Option.bind (m_isVacant σ a1) fun r32 => (if r32 = 0 then (Option.bind (m_refuse σ (-3 : Int32)) fun r65 => some (r65.1, r65.2)) else (if a2 < 0 then (Option.bind (m_refuse σ (-4 : Int32)) fun r34 => some (r34.1, r34.2)) else (if a3 < (-20000 : Int32) then (Option.bind (m_refuse σ (-4 : Int32)) fun r36 => some (r36.1, r36.2)) else (if a4 < (100 : Int32) then (Option.bind (m_refuse σ (-4 : Int32)) fun r63 => some (r63.1, r63.2)) else (if (1023 : Int32) < a2 then (Option.bind (m_refuse σ (-6 : Int32)) fun r38 => some (r38.1, r38.2)) else (if σ.1 0 0 0 < a3 then (Option.bind (m_refuse σ (-6 : Int32)) fun r40 => some (r40.1, r40.2)) else (if (9999 : Int32) < a4 then (Option.bind (m_refuse σ (-6 : Int32)) fun r42 => some (r42.1, r42.2)) else (if σ.1 0 0 11 = (40 : Int32) then (Option.bind (m_refuse σ (-6 : Int32)) fun r61 => some (r61.1, r61.2)) else (Option.bind (ix 40 (σ.1 0 0 11)) fun i44 => (lt1 (sx σ 0 12 i44 a1) fun σ45 => (Option.bind (ix 40 (σ45.1 0 0 11)) fun i46 => (lt1 (sx σ45 0 13 i46 (-1 : Int32)) fun σ47 => (Option.bind (ix 40 (σ47.1 0 0 11)) fun i48 => (lt1 (sx σ47 0 9 i48 a2) fun σ49 => (Option.bind (ix 40 (σ49.1 0 0 11)) fun i50 => (lt1 (sx σ49 0 10 i50 a3) fun σ51 => (Option.bind (ix 40 (σ51.1 0 0 11)) fun i52 => (lt1 (sx σ51 0 11 i52 a4) fun σ53 => (Option.bind (ix 40 (σ53.1 0 0 11)) fun i54 => (lt1 (sx σ53 0 14 i54 (-1 : Int32)) fun σ55 => (Option.bind (ix 40 (σ55.1 0 0 11)) fun i56 => (lt1 (sx σ55 0 15 i56 (-1 : Int32)) fun σ57 => (Option.bind (ix 40 (σ57.1 0 0 11)) fun i58 => (lt1 (sx σ57 0 16 i58 (-1 : Int32)) fun σ59 => (lt1 (sx σ59 0 0 11 ((σ59.1 0 0 11) + (1 : Int32))) fun σ60 => some ((σ60.1 0 0 11) - (1 : Int32), σ60)))))))))))))))))))))))))))) else (Option.bind (m_isPost σ a1) fun r67 => (if r67 = 0 then (Option.bind (m_refuse σ (-1 : Int32)) fun r135 => some (r135.1, r135.2)) else (if a1 < 0 then (if a2 < 0 then (Option.bind (m_refuse σ (-4 : Int32)) fun r69 => some (r69.1, r69.2)) else (if a3 < (-20000 : Int32) then (Option.bind (m_refuse σ (-4 : Int32)) fun r71 => some (r71.1, r71.2)) else (if a4 < (100 : Int32) then (Option.bind (m_refuse σ (-4 : Int32)) fun r98 => some (r98.1, r98.2)) else (if (1023 : Int32) < a2 then (Option.bind (m_refuse σ (-6 : Int32)) fun r73 => some (r73.1, r73.2)) else (if σ.1 0 0 0 < a3 then (Option.bind (m_refuse σ (-6 : Int32)) fun r75 => some (r75.1, r75.2)) else (if (9999 : Int32) < a4 then (Option.bind (m_refuse σ (-6 : Int32)) fun r77 => some (r77.1, r77.2)) else (if σ.1 0 0 11 = (40 : Int32) then (Option.bind (m_refuse σ (-6 : Int32)) fun r96 => some (r96.1, r96.2)) else (Option.bind (ix 40 (σ.1 0 0 11)) fun i79 => (lt1 (sx σ 0 12 i79 a1) fun σ80 => (Option.bind (ix 40 (σ80.1 0 0 11)) fun i81 => (lt1 (sx σ80 0 13 i81 (-1 : Int32)) fun σ82 => (Option.bind (ix 40 (σ82.1 0 0 11)) fun i83 => (lt1 (sx σ82 0 9 i83 a2) fun σ84 => (Option.bind (ix 40 (σ84.1 0 0 11)) fun i85 => (lt1 (sx σ84 0 10 i85 a3) fun σ86 => (Option.bind (ix 40 (σ86.1 0 0 11)) fun i87 => (lt1 (sx σ86 0 11 i87 a4) fun σ88 => (Option.bind (ix 40 (σ88.1 0 0 11)) fun i89 => (lt1 (sx σ88 0 14 i89 (-1 : Int32)) fun σ90 => (Option.bind (ix 40 (σ90.1 0 0 11)) fun i91 => (lt1 (sx σ90 0 15 i91 (-1 : Int32)) fun σ92 => (Option.bind (ix 40 (σ92.1 0 0 11)) fun i93 => (lt1 (sx σ92 0 16 i93 (-1 : Int32)) fun σ94 => (lt1 (sx σ94 0 0 11 ((σ94.1 0 0 11) + (1 : Int32))) fun σ95 => some ((σ95.1 0 0 11) - (1 : Int32), σ95))))))))))))))))))))))))) else (Option.bind (m_isVacant σ a1) fun r100 => (if r100 = 0 then (Option.bind (m_refuse σ (-3 : Int32)) fun r133 => some (r133.1, r133.2)) else (if a2 < 0 then (Option.bind (m_refuse σ (-4 : Int32)) fun r102 => some (r102.1, r102.2)) else (if a3 < (-20000 : Int32) then (Option.bind (m_refuse σ (-4 : Int32)) fun r104 => some (r104.1, r104.2)) else (if a4 < (100 : Int32) then (Option.bind (m_refuse σ (-4 : Int32)) fun r131 => some (r131.1, r131.2)) else (if (1023 : Int32) < a2 then (Option.bind (m_refuse σ (-6 : Int32)) fun r106 => some (r106.1, r106.2)) else (if σ.1 0 0 0 < a3 then (Option.bind (m_refuse σ (-6 : Int32)) fun r108 => some (r108.1, r108.2)) else (if (9999 : Int32) < a4 then (Option.bind (m_refuse σ (-6 : Int32)) fun r110 => some (r110.1, r110.2)) else (if σ.1 0 0 11 = (40 : Int32) then (Option.bind (m_refuse σ (-6 : Int32)) fun r129 => some (r129.1, r129.2)) else (Option.bind (ix 40 (σ.1 0 0 11)) fun i112 => (lt1 (sx σ 0 12 i112 a1) fun σ113 => (Option.bind (ix 40 (σ113.1 0 0 11)) fun i114 => (lt1 (sx σ113 0 13 i114 (-1 : Int32)) fun σ115 => (Option.bind (ix 40 (σ115.1 0 0 11)) fun i116 => (lt1 (sx σ115 0 9 i116 a2) fun σ117 => (Option.bind (ix 40 (σ117.1 0 0 11)) fun i118 => (lt1 (sx σ117 0 10 i118 a3) fun σ119 => (Option.bind (ix 40 (σ119.1 0 0 11)) fun i120 => (lt1 (sx σ119 0 11 i120 a4) fun σ121 => (Option.bind (ix 40 (σ121.1 0 0 11)) fun i122 => (lt1 (sx σ121 0 14 i122 (-1 : Int32)) fun σ123 => (Option.bind (ix 40 (σ123.1 0 0 11)) fun i124 => (lt1 (sx σ123 0 15 i124 (-1 : Int32)) fun σ125 => (Option.bind (ix 40 (σ125.1 0 0 11)) fun i126 => (lt1 (sx σ125 0 16 i126 (-1 : Int32)) fun σ127 => (lt1 (sx σ127 0 0 11 ((σ127.1 0 0 11) + (1 : Int32))) fun σ128 => some ((σ128.1 0 0 11) - (1 : Int32), σ128)))))))))))))))))))))))))))))))
set_option maxRecDepth 20000 in
set_option maxHeartbeats 4000000 in
theorem w_m_person (Θ : TT) (σ : St) (a1 : Int32) (a2 : Int32) (a3 : Int32) (a4 : Int32) (C : CX Θ cX12_person RX12 (some .int) ({ frames := 2, cells := 0, slots := 0, locals := 43 } : Room) 5) : WA LM Θ (fun r : Int32 × St => Qm LM Θ (some (.int r.1)) r.2 (True)) 0 [some (.ref (cF Θ 0)), some (.int a1), some (.int a2), some (.int a3), some (.int a4)] [] σ (m_person σ a1 a2 a3 a4) := by
  unfold m_person
  refine r_iload_n C dX12_person_0 rfl ?_
  refine r_iconst C (-1 : Int32) dX12_person_1 (by decide) ?_
  refine r_icmp_eq C 19 dX12_person_2 (by decide) ?_ ?_
  · refine r_iload_n C dX12_person_19 rfl ?_
    refine r_if_lt C 38 dX12_person_20 (by decide) ?_ ?_
    · refine r_iload_n C dX12_person_38 rfl ?_
      refine r_if_lt C 56 dX12_person_39 (by decide) ?_ ?_
      · refine r_aload_n C dX12_person_56 rfl ?_
        refine r_bipush C (-4 : Int32) dX12_person_57 (by decide) ?_
        refine r_callV C (st := []) (As := [.int (-4 : Int32)]) (d := 0) (j := 0) dX12_person_59 ml_X12_174 vw_X12_refuse ⟨_, _, _, _, rfl, rfl⟩ (dm0 (by decide)) (fun r1 e => c_m_refuse Θ.1.2.1 (cW Θ) (cAd Θ) (cN Θ) σ (-4 : Int32) r1 e) rfl rfl (Nat.le_of_ble_eq_true rfl) ⟨rfl, rfl, by decide, by decide⟩ (fun r1 h2 => ?_)
        exact r_iret C dX12_person_62 rfl rfl trivial
      · refine r_iload_n C dX12_person_42 rfl ?_
        refine r_sipush C (-20000 : Int32) dX12_person_43 (by decide) ?_
        refine r_icmp_lt C 56 dX12_person_46 (by decide) ?_ ?_
        · refine r_aload_n C dX12_person_56 rfl ?_
          refine r_bipush C (-4 : Int32) dX12_person_57 (by decide) ?_
          refine r_callV C (st := []) (As := [.int (-4 : Int32)]) (d := 0) (j := 0) dX12_person_59 ml_X12_174 vw_X12_refuse ⟨_, _, _, _, rfl, rfl⟩ (dm0 (by decide)) (fun r3 e => c_m_refuse Θ.1.2.1 (cW Θ) (cAd Θ) (cN Θ) σ (-4 : Int32) r3 e) rfl rfl (Nat.le_of_ble_eq_true rfl) ⟨rfl, rfl, by decide, by decide⟩ (fun r3 h4 => ?_)
          exact r_iret C dX12_person_62 rfl rfl trivial
        · refine r_iload C dX12_person_49 rfl ?_
          refine r_bipush C (100 : Int32) dX12_person_51 (by decide) ?_
          refine r_icmp_ge C 63 dX12_person_53 (by decide) ?_ ?_
          · refine r_iload_n C dX12_person_63 rfl ?_
            refine r_sipush C (1023 : Int32) dX12_person_64 (by decide) ?_
            refine r_icmp_gt C 95 dX12_person_67 (by decide) ?_ ?_
            · refine r_aload_n C dX12_person_95 rfl ?_
              refine r_bipush C (-6 : Int32) dX12_person_96 (by decide) ?_
              refine r_callV C (st := []) (As := [.int (-6 : Int32)]) (d := 0) (j := 0) dX12_person_98 ml_X12_174 vw_X12_refuse ⟨_, _, _, _, rfl, rfl⟩ (dm0 (by decide)) (fun r5 e => c_m_refuse Θ.1.2.1 (cW Θ) (cAd Θ) (cN Θ) σ (-6 : Int32) r5 e) rfl rfl (Nat.le_of_ble_eq_true rfl) ⟨rfl, rfl, by decide, by decide⟩ (fun r5 h6 => ?_)
              exact r_iret C dX12_person_101 rfl rfl trivial
            · refine r_iload_n C dX12_person_70 rfl ?_
              refine r_aload_n C dX12_person_71 rfl ?_
              refine r_getI0 C dX12_person_72 fg_X12_167 (by decide) ?_
              refine r_icmp_gt C 95 dX12_person_75 (by decide) ?_ ?_
              · refine r_aload_n C dX12_person_95 rfl ?_
                refine r_bipush C (-6 : Int32) dX12_person_96 (by decide) ?_
                refine r_callV C (st := []) (As := [.int (-6 : Int32)]) (d := 0) (j := 0) dX12_person_98 ml_X12_174 vw_X12_refuse ⟨_, _, _, _, rfl, rfl⟩ (dm0 (by decide)) (fun r7 e => c_m_refuse Θ.1.2.1 (cW Θ) (cAd Θ) (cN Θ) σ (-6 : Int32) r7 e) rfl rfl (Nat.le_of_ble_eq_true rfl) ⟨rfl, rfl, by decide, by decide⟩ (fun r7 h8 => ?_)
                exact r_iret C dX12_person_101 rfl rfl trivial
              · refine r_iload C dX12_person_78 rfl ?_
                refine r_sipush C (9999 : Int32) dX12_person_80 (by decide) ?_
                refine r_icmp_gt C 95 dX12_person_83 (by decide) ?_ ?_
                · refine r_aload_n C dX12_person_95 rfl ?_
                  refine r_bipush C (-6 : Int32) dX12_person_96 (by decide) ?_
                  refine r_callV C (st := []) (As := [.int (-6 : Int32)]) (d := 0) (j := 0) dX12_person_98 ml_X12_174 vw_X12_refuse ⟨_, _, _, _, rfl, rfl⟩ (dm0 (by decide)) (fun r9 e => c_m_refuse Θ.1.2.1 (cW Θ) (cAd Θ) (cN Θ) σ (-6 : Int32) r9 e) rfl rfl (Nat.le_of_ble_eq_true rfl) ⟨rfl, rfl, by decide, by decide⟩ (fun r9 h10 => ?_)
                  exact r_iret C dX12_person_101 rfl rfl trivial
                · refine r_aload_n C dX12_person_86 rfl ?_
                  refine r_getI0 C dX12_person_87 fg_X12_164 (by decide) ?_
                  refine r_bipush C (40 : Int32) dX12_person_90 (by decide) ?_
                  refine r_icmp_ne C 102 dX12_person_92 (by decide) ?_ ?_
                  · refine r_aload_n C dX12_person_102 rfl ?_
                    refine r_getF0 C dX12_person_103 fg_X12_43 (by decide) ?_
                    refine r_aload_n C dX12_person_106 rfl ?_
                    refine r_getI0 C dX12_person_107 fg_X12_164 (by decide) ?_
                    refine r_iload_n C dX12_person_110 rfl ?_
                    refine r_iast C dX12_person_111 ag_LM_12 (fun i11 => ?_)
                    refine WA.gen (fun σ12 => ?_)
                    refine r_aload_n C dX12_person_112 rfl ?_
                    refine r_getF0 C dX12_person_113 fg_X12_46 (by decide) ?_
                    refine r_aload_n C dX12_person_116 rfl ?_
                    refine r_getI0 C dX12_person_117 fg_X12_164 (by decide) ?_
                    refine r_iconst C (-1 : Int32) dX12_person_120 (by decide) ?_
                    refine r_iast C dX12_person_121 ag_LM_13 (fun i13 => ?_)
                    refine WA.gen (fun σ14 => ?_)
                    refine r_aload_n C dX12_person_122 rfl ?_
                    refine r_getF0 C dX12_person_123 fg_X12_34 (by decide) ?_
                    refine r_aload_n C dX12_person_126 rfl ?_
                    refine r_getI0 C dX12_person_127 fg_X12_164 (by decide) ?_
                    refine r_iload_n C dX12_person_130 rfl ?_
                    refine r_iast C dX12_person_131 ag_LM_9 (fun i15 => ?_)
                    refine WA.gen (fun σ16 => ?_)
                    refine r_aload_n C dX12_person_132 rfl ?_
                    refine r_getF0 C dX12_person_133 fg_X12_37 (by decide) ?_
                    refine r_aload_n C dX12_person_136 rfl ?_
                    refine r_getI0 C dX12_person_137 fg_X12_164 (by decide) ?_
                    refine r_iload_n C dX12_person_140 rfl ?_
                    refine r_iast C dX12_person_141 ag_LM_10 (fun i17 => ?_)
                    refine WA.gen (fun σ18 => ?_)
                    refine r_aload_n C dX12_person_142 rfl ?_
                    refine r_getF0 C dX12_person_143 fg_X12_40 (by decide) ?_
                    refine r_aload_n C dX12_person_146 rfl ?_
                    refine r_getI0 C dX12_person_147 fg_X12_164 (by decide) ?_
                    refine r_iload C dX12_person_150 rfl ?_
                    refine r_iast C dX12_person_152 ag_LM_11 (fun i19 => ?_)
                    refine WA.gen (fun σ20 => ?_)
                    refine r_aload_n C dX12_person_153 rfl ?_
                    refine r_getF0 C dX12_person_154 fg_X12_49 (by decide) ?_
                    refine r_aload_n C dX12_person_157 rfl ?_
                    refine r_getI0 C dX12_person_158 fg_X12_164 (by decide) ?_
                    refine r_iconst C (-1 : Int32) dX12_person_161 (by decide) ?_
                    refine r_iast C dX12_person_162 ag_LM_14 (fun i21 => ?_)
                    refine WA.gen (fun σ22 => ?_)
                    refine r_aload_n C dX12_person_163 rfl ?_
                    refine r_getF0 C dX12_person_164 fg_X12_52 (by decide) ?_
                    refine r_aload_n C dX12_person_167 rfl ?_
                    refine r_getI0 C dX12_person_168 fg_X12_164 (by decide) ?_
                    refine r_iconst C (-1 : Int32) dX12_person_171 (by decide) ?_
                    refine r_iast C dX12_person_172 ag_LM_15 (fun i23 => ?_)
                    refine WA.gen (fun σ24 => ?_)
                    refine r_aload_n C dX12_person_173 rfl ?_
                    refine r_getF0 C dX12_person_174 fg_X12_55 (by decide) ?_
                    refine r_aload_n C dX12_person_177 rfl ?_
                    refine r_getI0 C dX12_person_178 fg_X12_164 (by decide) ?_
                    refine r_iconst C (-1 : Int32) dX12_person_181 (by decide) ?_
                    refine r_iast C dX12_person_182 ag_LM_16 (fun i25 => ?_)
                    refine WA.gen (fun σ26 => ?_)
                    refine r_aload_n C dX12_person_183 rfl ?_
                    refine r_dup C dX12_person_184 rfl ?_
                    refine r_getI0 C dX12_person_185 fg_X12_164 (by decide) ?_
                    refine r_iconst C (1 : Int32) dX12_person_188 (by decide) ?_
                    refine r_iadd C dX12_person_189 ?_
                    refine r_putI0 C dX12_person_190 fp_X12_164 (by decide) ?_
                    refine WA.gen (fun σ27 => ?_)
                    refine r_aload_n C dX12_person_193 rfl ?_
                    refine r_getI0 C dX12_person_194 fg_X12_164 (by decide) ?_
                    refine r_iconst C (1 : Int32) dX12_person_197 (by decide) ?_
                    refine r_isub C dX12_person_198 ?_
                    exact r_iret C dX12_person_199 rfl rfl trivial
                  · refine r_aload_n C dX12_person_95 rfl ?_
                    refine r_bipush C (-6 : Int32) dX12_person_96 (by decide) ?_
                    refine r_callV C (st := []) (As := [.int (-6 : Int32)]) (d := 0) (j := 0) dX12_person_98 ml_X12_174 vw_X12_refuse ⟨_, _, _, _, rfl, rfl⟩ (dm0 (by decide)) (fun r28 e => c_m_refuse Θ.1.2.1 (cW Θ) (cAd Θ) (cN Θ) σ (-6 : Int32) r28 e) rfl rfl (Nat.le_of_ble_eq_true rfl) ⟨rfl, rfl, by decide, by decide⟩ (fun r28 h29 => ?_)
                    exact r_iret C dX12_person_101 rfl rfl trivial
          · refine r_aload_n C dX12_person_56 rfl ?_
            refine r_bipush C (-4 : Int32) dX12_person_57 (by decide) ?_
            refine r_callV C (st := []) (As := [.int (-4 : Int32)]) (d := 0) (j := 0) dX12_person_59 ml_X12_174 vw_X12_refuse ⟨_, _, _, _, rfl, rfl⟩ (dm0 (by decide)) (fun r30 e => c_m_refuse Θ.1.2.1 (cW Θ) (cAd Θ) (cN Θ) σ (-4 : Int32) r30 e) rfl rfl (Nat.le_of_ble_eq_true rfl) ⟨rfl, rfl, by decide, by decide⟩ (fun r30 h31 => ?_)
            exact r_iret C dX12_person_62 rfl rfl trivial
    · refine r_aload_n C dX12_person_23 rfl ?_
      refine r_iload_n C dX12_person_24 rfl ?_
      refine r_callV C (st := []) (As := [.int a1]) (d := 0) (j := 0) dX12_person_25 ml_X12_191 vw_X12_isVacant ⟨_, _, _, _, rfl, rfl⟩ (dm0 (by decide)) (fun r32 e => c_m_isVacant Θ.1.2.1 (cW Θ) (cAd Θ) (cN Θ) σ a1 r32 e) rfl rfl (Nat.le_of_ble_eq_true rfl) ⟨rfl, rfl, by decide, by decide⟩ (fun r32 h33 => ?_)
      refine r_if_ne C 38 dX12_person_28 (by decide) ?_ ?_
      · refine r_iload_n C dX12_person_38 rfl ?_
        refine r_if_lt C 56 dX12_person_39 (by decide) ?_ ?_
        · refine r_aload_n C dX12_person_56 rfl ?_
          refine r_bipush C (-4 : Int32) dX12_person_57 (by decide) ?_
          refine r_callV C (st := []) (As := [.int (-4 : Int32)]) (d := 0) (j := 0) dX12_person_59 ml_X12_174 vw_X12_refuse ⟨_, _, _, _, rfl, rfl⟩ (dm0 (by decide)) (fun r34 e => c_m_refuse Θ.1.2.1 (cW Θ) (cAd Θ) (cN Θ) σ (-4 : Int32) r34 e) rfl rfl (Nat.le_of_ble_eq_true rfl) ⟨rfl, rfl, by decide, by decide⟩ (fun r34 h35 => ?_)
          exact r_iret C dX12_person_62 rfl rfl trivial
        · refine r_iload_n C dX12_person_42 rfl ?_
          refine r_sipush C (-20000 : Int32) dX12_person_43 (by decide) ?_
          refine r_icmp_lt C 56 dX12_person_46 (by decide) ?_ ?_
          · refine r_aload_n C dX12_person_56 rfl ?_
            refine r_bipush C (-4 : Int32) dX12_person_57 (by decide) ?_
            refine r_callV C (st := []) (As := [.int (-4 : Int32)]) (d := 0) (j := 0) dX12_person_59 ml_X12_174 vw_X12_refuse ⟨_, _, _, _, rfl, rfl⟩ (dm0 (by decide)) (fun r36 e => c_m_refuse Θ.1.2.1 (cW Θ) (cAd Θ) (cN Θ) σ (-4 : Int32) r36 e) rfl rfl (Nat.le_of_ble_eq_true rfl) ⟨rfl, rfl, by decide, by decide⟩ (fun r36 h37 => ?_)
            exact r_iret C dX12_person_62 rfl rfl trivial
          · refine r_iload C dX12_person_49 rfl ?_
            refine r_bipush C (100 : Int32) dX12_person_51 (by decide) ?_
            refine r_icmp_ge C 63 dX12_person_53 (by decide) ?_ ?_
            · refine r_iload_n C dX12_person_63 rfl ?_
              refine r_sipush C (1023 : Int32) dX12_person_64 (by decide) ?_
              refine r_icmp_gt C 95 dX12_person_67 (by decide) ?_ ?_
              · refine r_aload_n C dX12_person_95 rfl ?_
                refine r_bipush C (-6 : Int32) dX12_person_96 (by decide) ?_
                refine r_callV C (st := []) (As := [.int (-6 : Int32)]) (d := 0) (j := 0) dX12_person_98 ml_X12_174 vw_X12_refuse ⟨_, _, _, _, rfl, rfl⟩ (dm0 (by decide)) (fun r38 e => c_m_refuse Θ.1.2.1 (cW Θ) (cAd Θ) (cN Θ) σ (-6 : Int32) r38 e) rfl rfl (Nat.le_of_ble_eq_true rfl) ⟨rfl, rfl, by decide, by decide⟩ (fun r38 h39 => ?_)
                exact r_iret C dX12_person_101 rfl rfl trivial
              · refine r_iload_n C dX12_person_70 rfl ?_
                refine r_aload_n C dX12_person_71 rfl ?_
                refine r_getI0 C dX12_person_72 fg_X12_167 (by decide) ?_
                refine r_icmp_gt C 95 dX12_person_75 (by decide) ?_ ?_
                · refine r_aload_n C dX12_person_95 rfl ?_
                  refine r_bipush C (-6 : Int32) dX12_person_96 (by decide) ?_
                  refine r_callV C (st := []) (As := [.int (-6 : Int32)]) (d := 0) (j := 0) dX12_person_98 ml_X12_174 vw_X12_refuse ⟨_, _, _, _, rfl, rfl⟩ (dm0 (by decide)) (fun r40 e => c_m_refuse Θ.1.2.1 (cW Θ) (cAd Θ) (cN Θ) σ (-6 : Int32) r40 e) rfl rfl (Nat.le_of_ble_eq_true rfl) ⟨rfl, rfl, by decide, by decide⟩ (fun r40 h41 => ?_)
                  exact r_iret C dX12_person_101 rfl rfl trivial
                · refine r_iload C dX12_person_78 rfl ?_
                  refine r_sipush C (9999 : Int32) dX12_person_80 (by decide) ?_
                  refine r_icmp_gt C 95 dX12_person_83 (by decide) ?_ ?_
                  · refine r_aload_n C dX12_person_95 rfl ?_
                    refine r_bipush C (-6 : Int32) dX12_person_96 (by decide) ?_
                    refine r_callV C (st := []) (As := [.int (-6 : Int32)]) (d := 0) (j := 0) dX12_person_98 ml_X12_174 vw_X12_refuse ⟨_, _, _, _, rfl, rfl⟩ (dm0 (by decide)) (fun r42 e => c_m_refuse Θ.1.2.1 (cW Θ) (cAd Θ) (cN Θ) σ (-6 : Int32) r42 e) rfl rfl (Nat.le_of_ble_eq_true rfl) ⟨rfl, rfl, by decide, by decide⟩ (fun r42 h43 => ?_)
                    exact r_iret C dX12_person_101 rfl rfl trivial
                  · refine r_aload_n C dX12_person_86 rfl ?_
                    refine r_getI0 C dX12_person_87 fg_X12_164 (by decide) ?_
                    refine r_bipush C (40 : Int32) dX12_person_90 (by decide) ?_
                    refine r_icmp_ne C 102 dX12_person_92 (by decide) ?_ ?_
                    · refine r_aload_n C dX12_person_102 rfl ?_
                      refine r_getF0 C dX12_person_103 fg_X12_43 (by decide) ?_
                      refine r_aload_n C dX12_person_106 rfl ?_
                      refine r_getI0 C dX12_person_107 fg_X12_164 (by decide) ?_
                      refine r_iload_n C dX12_person_110 rfl ?_
                      refine r_iast C dX12_person_111 ag_LM_12 (fun i44 => ?_)
                      refine WA.gen (fun σ45 => ?_)
                      refine r_aload_n C dX12_person_112 rfl ?_
                      refine r_getF0 C dX12_person_113 fg_X12_46 (by decide) ?_
                      refine r_aload_n C dX12_person_116 rfl ?_
                      refine r_getI0 C dX12_person_117 fg_X12_164 (by decide) ?_
                      refine r_iconst C (-1 : Int32) dX12_person_120 (by decide) ?_
                      refine r_iast C dX12_person_121 ag_LM_13 (fun i46 => ?_)
                      refine WA.gen (fun σ47 => ?_)
                      refine r_aload_n C dX12_person_122 rfl ?_
                      refine r_getF0 C dX12_person_123 fg_X12_34 (by decide) ?_
                      refine r_aload_n C dX12_person_126 rfl ?_
                      refine r_getI0 C dX12_person_127 fg_X12_164 (by decide) ?_
                      refine r_iload_n C dX12_person_130 rfl ?_
                      refine r_iast C dX12_person_131 ag_LM_9 (fun i48 => ?_)
                      refine WA.gen (fun σ49 => ?_)
                      refine r_aload_n C dX12_person_132 rfl ?_
                      refine r_getF0 C dX12_person_133 fg_X12_37 (by decide) ?_
                      refine r_aload_n C dX12_person_136 rfl ?_
                      refine r_getI0 C dX12_person_137 fg_X12_164 (by decide) ?_
                      refine r_iload_n C dX12_person_140 rfl ?_
                      refine r_iast C dX12_person_141 ag_LM_10 (fun i50 => ?_)
                      refine WA.gen (fun σ51 => ?_)
                      refine r_aload_n C dX12_person_142 rfl ?_
                      refine r_getF0 C dX12_person_143 fg_X12_40 (by decide) ?_
                      refine r_aload_n C dX12_person_146 rfl ?_
                      refine r_getI0 C dX12_person_147 fg_X12_164 (by decide) ?_
                      refine r_iload C dX12_person_150 rfl ?_
                      refine r_iast C dX12_person_152 ag_LM_11 (fun i52 => ?_)
                      refine WA.gen (fun σ53 => ?_)
                      refine r_aload_n C dX12_person_153 rfl ?_
                      refine r_getF0 C dX12_person_154 fg_X12_49 (by decide) ?_
                      refine r_aload_n C dX12_person_157 rfl ?_
                      refine r_getI0 C dX12_person_158 fg_X12_164 (by decide) ?_
                      refine r_iconst C (-1 : Int32) dX12_person_161 (by decide) ?_
                      refine r_iast C dX12_person_162 ag_LM_14 (fun i54 => ?_)
                      refine WA.gen (fun σ55 => ?_)
                      refine r_aload_n C dX12_person_163 rfl ?_
                      refine r_getF0 C dX12_person_164 fg_X12_52 (by decide) ?_
                      refine r_aload_n C dX12_person_167 rfl ?_
                      refine r_getI0 C dX12_person_168 fg_X12_164 (by decide) ?_
                      refine r_iconst C (-1 : Int32) dX12_person_171 (by decide) ?_
                      refine r_iast C dX12_person_172 ag_LM_15 (fun i56 => ?_)
                      refine WA.gen (fun σ57 => ?_)
                      refine r_aload_n C dX12_person_173 rfl ?_
                      refine r_getF0 C dX12_person_174 fg_X12_55 (by decide) ?_
                      refine r_aload_n C dX12_person_177 rfl ?_
                      refine r_getI0 C dX12_person_178 fg_X12_164 (by decide) ?_
                      refine r_iconst C (-1 : Int32) dX12_person_181 (by decide) ?_
                      refine r_iast C dX12_person_182 ag_LM_16 (fun i58 => ?_)
                      refine WA.gen (fun σ59 => ?_)
                      refine r_aload_n C dX12_person_183 rfl ?_
                      refine r_dup C dX12_person_184 rfl ?_
                      refine r_getI0 C dX12_person_185 fg_X12_164 (by decide) ?_
                      refine r_iconst C (1 : Int32) dX12_person_188 (by decide) ?_
                      refine r_iadd C dX12_person_189 ?_
                      refine r_putI0 C dX12_person_190 fp_X12_164 (by decide) ?_
                      refine WA.gen (fun σ60 => ?_)
                      refine r_aload_n C dX12_person_193 rfl ?_
                      refine r_getI0 C dX12_person_194 fg_X12_164 (by decide) ?_
                      refine r_iconst C (1 : Int32) dX12_person_197 (by decide) ?_
                      refine r_isub C dX12_person_198 ?_
                      exact r_iret C dX12_person_199 rfl rfl trivial
                    · refine r_aload_n C dX12_person_95 rfl ?_
                      refine r_bipush C (-6 : Int32) dX12_person_96 (by decide) ?_
                      refine r_callV C (st := []) (As := [.int (-6 : Int32)]) (d := 0) (j := 0) dX12_person_98 ml_X12_174 vw_X12_refuse ⟨_, _, _, _, rfl, rfl⟩ (dm0 (by decide)) (fun r61 e => c_m_refuse Θ.1.2.1 (cW Θ) (cAd Θ) (cN Θ) σ (-6 : Int32) r61 e) rfl rfl (Nat.le_of_ble_eq_true rfl) ⟨rfl, rfl, by decide, by decide⟩ (fun r61 h62 => ?_)
                      exact r_iret C dX12_person_101 rfl rfl trivial
            · refine r_aload_n C dX12_person_56 rfl ?_
              refine r_bipush C (-4 : Int32) dX12_person_57 (by decide) ?_
              refine r_callV C (st := []) (As := [.int (-4 : Int32)]) (d := 0) (j := 0) dX12_person_59 ml_X12_174 vw_X12_refuse ⟨_, _, _, _, rfl, rfl⟩ (dm0 (by decide)) (fun r63 e => c_m_refuse Θ.1.2.1 (cW Θ) (cAd Θ) (cN Θ) σ (-4 : Int32) r63 e) rfl rfl (Nat.le_of_ble_eq_true rfl) ⟨rfl, rfl, by decide, by decide⟩ (fun r63 h64 => ?_)
              exact r_iret C dX12_person_62 rfl rfl trivial
      · refine r_aload_n C dX12_person_31 rfl ?_
        refine r_bipush C (-3 : Int32) dX12_person_32 (by decide) ?_
        refine r_callV C (st := []) (As := [.int (-3 : Int32)]) (d := 0) (j := 0) dX12_person_34 ml_X12_174 vw_X12_refuse ⟨_, _, _, _, rfl, rfl⟩ (dm0 (by decide)) (fun r65 e => c_m_refuse Θ.1.2.1 (cW Θ) (cAd Θ) (cN Θ) σ (-3 : Int32) r65 e) rfl rfl (Nat.le_of_ble_eq_true rfl) ⟨rfl, rfl, by decide, by decide⟩ (fun r65 h66 => ?_)
        exact r_iret C dX12_person_37 rfl rfl trivial
  · refine r_aload_n C dX12_person_5 rfl ?_
    refine r_iload_n C dX12_person_6 rfl ?_
    refine r_callV C (st := []) (As := [.int a1]) (d := 0) (j := 0) dX12_person_7 ml_X12_181 vw_X12_isPost ⟨_, _, _, _, rfl, rfl⟩ (dm0 (by decide)) (fun r67 e => c_m_isPost Θ.1.2.1 (cW Θ) (cAd Θ) (cN Θ) σ a1 r67 e) rfl rfl (Nat.le_of_ble_eq_true rfl) ⟨rfl, rfl, by decide, by decide⟩ (fun r67 h68 => ?_)
    refine r_if_ne C 19 dX12_person_10 (by decide) ?_ ?_
    · refine r_iload_n C dX12_person_19 rfl ?_
      refine r_if_lt C 38 dX12_person_20 (by decide) ?_ ?_
      · refine r_iload_n C dX12_person_38 rfl ?_
        refine r_if_lt C 56 dX12_person_39 (by decide) ?_ ?_
        · refine r_aload_n C dX12_person_56 rfl ?_
          refine r_bipush C (-4 : Int32) dX12_person_57 (by decide) ?_
          refine r_callV C (st := []) (As := [.int (-4 : Int32)]) (d := 0) (j := 0) dX12_person_59 ml_X12_174 vw_X12_refuse ⟨_, _, _, _, rfl, rfl⟩ (dm0 (by decide)) (fun r69 e => c_m_refuse Θ.1.2.1 (cW Θ) (cAd Θ) (cN Θ) σ (-4 : Int32) r69 e) rfl rfl (Nat.le_of_ble_eq_true rfl) ⟨rfl, rfl, by decide, by decide⟩ (fun r69 h70 => ?_)
          exact r_iret C dX12_person_62 rfl rfl trivial
        · refine r_iload_n C dX12_person_42 rfl ?_
          refine r_sipush C (-20000 : Int32) dX12_person_43 (by decide) ?_
          refine r_icmp_lt C 56 dX12_person_46 (by decide) ?_ ?_
          · refine r_aload_n C dX12_person_56 rfl ?_
            refine r_bipush C (-4 : Int32) dX12_person_57 (by decide) ?_
            refine r_callV C (st := []) (As := [.int (-4 : Int32)]) (d := 0) (j := 0) dX12_person_59 ml_X12_174 vw_X12_refuse ⟨_, _, _, _, rfl, rfl⟩ (dm0 (by decide)) (fun r71 e => c_m_refuse Θ.1.2.1 (cW Θ) (cAd Θ) (cN Θ) σ (-4 : Int32) r71 e) rfl rfl (Nat.le_of_ble_eq_true rfl) ⟨rfl, rfl, by decide, by decide⟩ (fun r71 h72 => ?_)
            exact r_iret C dX12_person_62 rfl rfl trivial
          · refine r_iload C dX12_person_49 rfl ?_
            refine r_bipush C (100 : Int32) dX12_person_51 (by decide) ?_
            refine r_icmp_ge C 63 dX12_person_53 (by decide) ?_ ?_
            · refine r_iload_n C dX12_person_63 rfl ?_
              refine r_sipush C (1023 : Int32) dX12_person_64 (by decide) ?_
              refine r_icmp_gt C 95 dX12_person_67 (by decide) ?_ ?_
              · refine r_aload_n C dX12_person_95 rfl ?_
                refine r_bipush C (-6 : Int32) dX12_person_96 (by decide) ?_
                refine r_callV C (st := []) (As := [.int (-6 : Int32)]) (d := 0) (j := 0) dX12_person_98 ml_X12_174 vw_X12_refuse ⟨_, _, _, _, rfl, rfl⟩ (dm0 (by decide)) (fun r73 e => c_m_refuse Θ.1.2.1 (cW Θ) (cAd Θ) (cN Θ) σ (-6 : Int32) r73 e) rfl rfl (Nat.le_of_ble_eq_true rfl) ⟨rfl, rfl, by decide, by decide⟩ (fun r73 h74 => ?_)
                exact r_iret C dX12_person_101 rfl rfl trivial
              · refine r_iload_n C dX12_person_70 rfl ?_
                refine r_aload_n C dX12_person_71 rfl ?_
                refine r_getI0 C dX12_person_72 fg_X12_167 (by decide) ?_
                refine r_icmp_gt C 95 dX12_person_75 (by decide) ?_ ?_
                · refine r_aload_n C dX12_person_95 rfl ?_
                  refine r_bipush C (-6 : Int32) dX12_person_96 (by decide) ?_
                  refine r_callV C (st := []) (As := [.int (-6 : Int32)]) (d := 0) (j := 0) dX12_person_98 ml_X12_174 vw_X12_refuse ⟨_, _, _, _, rfl, rfl⟩ (dm0 (by decide)) (fun r75 e => c_m_refuse Θ.1.2.1 (cW Θ) (cAd Θ) (cN Θ) σ (-6 : Int32) r75 e) rfl rfl (Nat.le_of_ble_eq_true rfl) ⟨rfl, rfl, by decide, by decide⟩ (fun r75 h76 => ?_)
                  exact r_iret C dX12_person_101 rfl rfl trivial
                · refine r_iload C dX12_person_78 rfl ?_
                  refine r_sipush C (9999 : Int32) dX12_person_80 (by decide) ?_
                  refine r_icmp_gt C 95 dX12_person_83 (by decide) ?_ ?_
                  · refine r_aload_n C dX12_person_95 rfl ?_
                    refine r_bipush C (-6 : Int32) dX12_person_96 (by decide) ?_
                    refine r_callV C (st := []) (As := [.int (-6 : Int32)]) (d := 0) (j := 0) dX12_person_98 ml_X12_174 vw_X12_refuse ⟨_, _, _, _, rfl, rfl⟩ (dm0 (by decide)) (fun r77 e => c_m_refuse Θ.1.2.1 (cW Θ) (cAd Θ) (cN Θ) σ (-6 : Int32) r77 e) rfl rfl (Nat.le_of_ble_eq_true rfl) ⟨rfl, rfl, by decide, by decide⟩ (fun r77 h78 => ?_)
                    exact r_iret C dX12_person_101 rfl rfl trivial
                  · refine r_aload_n C dX12_person_86 rfl ?_
                    refine r_getI0 C dX12_person_87 fg_X12_164 (by decide) ?_
                    refine r_bipush C (40 : Int32) dX12_person_90 (by decide) ?_
                    refine r_icmp_ne C 102 dX12_person_92 (by decide) ?_ ?_
                    · refine r_aload_n C dX12_person_102 rfl ?_
                      refine r_getF0 C dX12_person_103 fg_X12_43 (by decide) ?_
                      refine r_aload_n C dX12_person_106 rfl ?_
                      refine r_getI0 C dX12_person_107 fg_X12_164 (by decide) ?_
                      refine r_iload_n C dX12_person_110 rfl ?_
                      refine r_iast C dX12_person_111 ag_LM_12 (fun i79 => ?_)
                      refine WA.gen (fun σ80 => ?_)
                      refine r_aload_n C dX12_person_112 rfl ?_
                      refine r_getF0 C dX12_person_113 fg_X12_46 (by decide) ?_
                      refine r_aload_n C dX12_person_116 rfl ?_
                      refine r_getI0 C dX12_person_117 fg_X12_164 (by decide) ?_
                      refine r_iconst C (-1 : Int32) dX12_person_120 (by decide) ?_
                      refine r_iast C dX12_person_121 ag_LM_13 (fun i81 => ?_)
                      refine WA.gen (fun σ82 => ?_)
                      refine r_aload_n C dX12_person_122 rfl ?_
                      refine r_getF0 C dX12_person_123 fg_X12_34 (by decide) ?_
                      refine r_aload_n C dX12_person_126 rfl ?_
                      refine r_getI0 C dX12_person_127 fg_X12_164 (by decide) ?_
                      refine r_iload_n C dX12_person_130 rfl ?_
                      refine r_iast C dX12_person_131 ag_LM_9 (fun i83 => ?_)
                      refine WA.gen (fun σ84 => ?_)
                      refine r_aload_n C dX12_person_132 rfl ?_
                      refine r_getF0 C dX12_person_133 fg_X12_37 (by decide) ?_
                      refine r_aload_n C dX12_person_136 rfl ?_
                      refine r_getI0 C dX12_person_137 fg_X12_164 (by decide) ?_
                      refine r_iload_n C dX12_person_140 rfl ?_
                      refine r_iast C dX12_person_141 ag_LM_10 (fun i85 => ?_)
                      refine WA.gen (fun σ86 => ?_)
                      refine r_aload_n C dX12_person_142 rfl ?_
                      refine r_getF0 C dX12_person_143 fg_X12_40 (by decide) ?_
                      refine r_aload_n C dX12_person_146 rfl ?_
                      refine r_getI0 C dX12_person_147 fg_X12_164 (by decide) ?_
                      refine r_iload C dX12_person_150 rfl ?_
                      refine r_iast C dX12_person_152 ag_LM_11 (fun i87 => ?_)
                      refine WA.gen (fun σ88 => ?_)
                      refine r_aload_n C dX12_person_153 rfl ?_
                      refine r_getF0 C dX12_person_154 fg_X12_49 (by decide) ?_
                      refine r_aload_n C dX12_person_157 rfl ?_
                      refine r_getI0 C dX12_person_158 fg_X12_164 (by decide) ?_
                      refine r_iconst C (-1 : Int32) dX12_person_161 (by decide) ?_
                      refine r_iast C dX12_person_162 ag_LM_14 (fun i89 => ?_)
                      refine WA.gen (fun σ90 => ?_)
                      refine r_aload_n C dX12_person_163 rfl ?_
                      refine r_getF0 C dX12_person_164 fg_X12_52 (by decide) ?_
                      refine r_aload_n C dX12_person_167 rfl ?_
                      refine r_getI0 C dX12_person_168 fg_X12_164 (by decide) ?_
                      refine r_iconst C (-1 : Int32) dX12_person_171 (by decide) ?_
                      refine r_iast C dX12_person_172 ag_LM_15 (fun i91 => ?_)
                      refine WA.gen (fun σ92 => ?_)
                      refine r_aload_n C dX12_person_173 rfl ?_
                      refine r_getF0 C dX12_person_174 fg_X12_55 (by decide) ?_
                      refine r_aload_n C dX12_person_177 rfl ?_
                      refine r_getI0 C dX12_person_178 fg_X12_164 (by decide) ?_
                      refine r_iconst C (-1 : Int32) dX12_person_181 (by decide) ?_
                      refine r_iast C dX12_person_182 ag_LM_16 (fun i93 => ?_)
                      refine WA.gen (fun σ94 => ?_)
                      refine r_aload_n C dX12_person_183 rfl ?_
                      refine r_dup C dX12_person_184 rfl ?_
                      refine r_getI0 C dX12_person_185 fg_X12_164 (by decide) ?_
                      refine r_iconst C (1 : Int32) dX12_person_188 (by decide) ?_
                      refine r_iadd C dX12_person_189 ?_
                      refine r_putI0 C dX12_person_190 fp_X12_164 (by decide) ?_
                      refine WA.gen (fun σ95 => ?_)
                      refine r_aload_n C dX12_person_193 rfl ?_
                      refine r_getI0 C dX12_person_194 fg_X12_164 (by decide) ?_
                      refine r_iconst C (1 : Int32) dX12_person_197 (by decide) ?_
                      refine r_isub C dX12_person_198 ?_
                      exact r_iret C dX12_person_199 rfl rfl trivial
                    · refine r_aload_n C dX12_person_95 rfl ?_
                      refine r_bipush C (-6 : Int32) dX12_person_96 (by decide) ?_
                      refine r_callV C (st := []) (As := [.int (-6 : Int32)]) (d := 0) (j := 0) dX12_person_98 ml_X12_174 vw_X12_refuse ⟨_, _, _, _, rfl, rfl⟩ (dm0 (by decide)) (fun r96 e => c_m_refuse Θ.1.2.1 (cW Θ) (cAd Θ) (cN Θ) σ (-6 : Int32) r96 e) rfl rfl (Nat.le_of_ble_eq_true rfl) ⟨rfl, rfl, by decide, by decide⟩ (fun r96 h97 => ?_)
                      exact r_iret C dX12_person_101 rfl rfl trivial
            · refine r_aload_n C dX12_person_56 rfl ?_
              refine r_bipush C (-4 : Int32) dX12_person_57 (by decide) ?_
              refine r_callV C (st := []) (As := [.int (-4 : Int32)]) (d := 0) (j := 0) dX12_person_59 ml_X12_174 vw_X12_refuse ⟨_, _, _, _, rfl, rfl⟩ (dm0 (by decide)) (fun r98 e => c_m_refuse Θ.1.2.1 (cW Θ) (cAd Θ) (cN Θ) σ (-4 : Int32) r98 e) rfl rfl (Nat.le_of_ble_eq_true rfl) ⟨rfl, rfl, by decide, by decide⟩ (fun r98 h99 => ?_)
              exact r_iret C dX12_person_62 rfl rfl trivial
      · refine r_aload_n C dX12_person_23 rfl ?_
        refine r_iload_n C dX12_person_24 rfl ?_
        refine r_callV C (st := []) (As := [.int a1]) (d := 0) (j := 0) dX12_person_25 ml_X12_191 vw_X12_isVacant ⟨_, _, _, _, rfl, rfl⟩ (dm0 (by decide)) (fun r100 e => c_m_isVacant Θ.1.2.1 (cW Θ) (cAd Θ) (cN Θ) σ a1 r100 e) rfl rfl (Nat.le_of_ble_eq_true rfl) ⟨rfl, rfl, by decide, by decide⟩ (fun r100 h101 => ?_)
        refine r_if_ne C 38 dX12_person_28 (by decide) ?_ ?_
        · refine r_iload_n C dX12_person_38 rfl ?_
          refine r_if_lt C 56 dX12_person_39 (by decide) ?_ ?_
          · refine r_aload_n C dX12_person_56 rfl ?_
            refine r_bipush C (-4 : Int32) dX12_person_57 (by decide) ?_
            refine r_callV C (st := []) (As := [.int (-4 : Int32)]) (d := 0) (j := 0) dX12_person_59 ml_X12_174 vw_X12_refuse ⟨_, _, _, _, rfl, rfl⟩ (dm0 (by decide)) (fun r102 e => c_m_refuse Θ.1.2.1 (cW Θ) (cAd Θ) (cN Θ) σ (-4 : Int32) r102 e) rfl rfl (Nat.le_of_ble_eq_true rfl) ⟨rfl, rfl, by decide, by decide⟩ (fun r102 h103 => ?_)
            exact r_iret C dX12_person_62 rfl rfl trivial
          · refine r_iload_n C dX12_person_42 rfl ?_
            refine r_sipush C (-20000 : Int32) dX12_person_43 (by decide) ?_
            refine r_icmp_lt C 56 dX12_person_46 (by decide) ?_ ?_
            · refine r_aload_n C dX12_person_56 rfl ?_
              refine r_bipush C (-4 : Int32) dX12_person_57 (by decide) ?_
              refine r_callV C (st := []) (As := [.int (-4 : Int32)]) (d := 0) (j := 0) dX12_person_59 ml_X12_174 vw_X12_refuse ⟨_, _, _, _, rfl, rfl⟩ (dm0 (by decide)) (fun r104 e => c_m_refuse Θ.1.2.1 (cW Θ) (cAd Θ) (cN Θ) σ (-4 : Int32) r104 e) rfl rfl (Nat.le_of_ble_eq_true rfl) ⟨rfl, rfl, by decide, by decide⟩ (fun r104 h105 => ?_)
              exact r_iret C dX12_person_62 rfl rfl trivial
            · refine r_iload C dX12_person_49 rfl ?_
              refine r_bipush C (100 : Int32) dX12_person_51 (by decide) ?_
              refine r_icmp_ge C 63 dX12_person_53 (by decide) ?_ ?_
              · refine r_iload_n C dX12_person_63 rfl ?_
                refine r_sipush C (1023 : Int32) dX12_person_64 (by decide) ?_
                refine r_icmp_gt C 95 dX12_person_67 (by decide) ?_ ?_
                · refine r_aload_n C dX12_person_95 rfl ?_
                  refine r_bipush C (-6 : Int32) dX12_person_96 (by decide) ?_
                  refine r_callV C (st := []) (As := [.int (-6 : Int32)]) (d := 0) (j := 0) dX12_person_98 ml_X12_174 vw_X12_refuse ⟨_, _, _, _, rfl, rfl⟩ (dm0 (by decide)) (fun r106 e => c_m_refuse Θ.1.2.1 (cW Θ) (cAd Θ) (cN Θ) σ (-6 : Int32) r106 e) rfl rfl (Nat.le_of_ble_eq_true rfl) ⟨rfl, rfl, by decide, by decide⟩ (fun r106 h107 => ?_)
                  exact r_iret C dX12_person_101 rfl rfl trivial
                · refine r_iload_n C dX12_person_70 rfl ?_
                  refine r_aload_n C dX12_person_71 rfl ?_
                  refine r_getI0 C dX12_person_72 fg_X12_167 (by decide) ?_
                  refine r_icmp_gt C 95 dX12_person_75 (by decide) ?_ ?_
                  · refine r_aload_n C dX12_person_95 rfl ?_
                    refine r_bipush C (-6 : Int32) dX12_person_96 (by decide) ?_
                    refine r_callV C (st := []) (As := [.int (-6 : Int32)]) (d := 0) (j := 0) dX12_person_98 ml_X12_174 vw_X12_refuse ⟨_, _, _, _, rfl, rfl⟩ (dm0 (by decide)) (fun r108 e => c_m_refuse Θ.1.2.1 (cW Θ) (cAd Θ) (cN Θ) σ (-6 : Int32) r108 e) rfl rfl (Nat.le_of_ble_eq_true rfl) ⟨rfl, rfl, by decide, by decide⟩ (fun r108 h109 => ?_)
                    exact r_iret C dX12_person_101 rfl rfl trivial
                  · refine r_iload C dX12_person_78 rfl ?_
                    refine r_sipush C (9999 : Int32) dX12_person_80 (by decide) ?_
                    refine r_icmp_gt C 95 dX12_person_83 (by decide) ?_ ?_
                    · refine r_aload_n C dX12_person_95 rfl ?_
                      refine r_bipush C (-6 : Int32) dX12_person_96 (by decide) ?_
                      refine r_callV C (st := []) (As := [.int (-6 : Int32)]) (d := 0) (j := 0) dX12_person_98 ml_X12_174 vw_X12_refuse ⟨_, _, _, _, rfl, rfl⟩ (dm0 (by decide)) (fun r110 e => c_m_refuse Θ.1.2.1 (cW Θ) (cAd Θ) (cN Θ) σ (-6 : Int32) r110 e) rfl rfl (Nat.le_of_ble_eq_true rfl) ⟨rfl, rfl, by decide, by decide⟩ (fun r110 h111 => ?_)
                      exact r_iret C dX12_person_101 rfl rfl trivial
                    · refine r_aload_n C dX12_person_86 rfl ?_
                      refine r_getI0 C dX12_person_87 fg_X12_164 (by decide) ?_
                      refine r_bipush C (40 : Int32) dX12_person_90 (by decide) ?_
                      refine r_icmp_ne C 102 dX12_person_92 (by decide) ?_ ?_
                      · refine r_aload_n C dX12_person_102 rfl ?_
                        refine r_getF0 C dX12_person_103 fg_X12_43 (by decide) ?_
                        refine r_aload_n C dX12_person_106 rfl ?_
                        refine r_getI0 C dX12_person_107 fg_X12_164 (by decide) ?_
                        refine r_iload_n C dX12_person_110 rfl ?_
                        refine r_iast C dX12_person_111 ag_LM_12 (fun i112 => ?_)
                        refine WA.gen (fun σ113 => ?_)
                        refine r_aload_n C dX12_person_112 rfl ?_
                        refine r_getF0 C dX12_person_113 fg_X12_46 (by decide) ?_
                        refine r_aload_n C dX12_person_116 rfl ?_
                        refine r_getI0 C dX12_person_117 fg_X12_164 (by decide) ?_
                        refine r_iconst C (-1 : Int32) dX12_person_120 (by decide) ?_
                        refine r_iast C dX12_person_121 ag_LM_13 (fun i114 => ?_)
                        refine WA.gen (fun σ115 => ?_)
                        refine r_aload_n C dX12_person_122 rfl ?_
                        refine r_getF0 C dX12_person_123 fg_X12_34 (by decide) ?_
                        refine r_aload_n C dX12_person_126 rfl ?_
                        refine r_getI0 C dX12_person_127 fg_X12_164 (by decide) ?_
                        refine r_iload_n C dX12_person_130 rfl ?_
                        refine r_iast C dX12_person_131 ag_LM_9 (fun i116 => ?_)
                        refine WA.gen (fun σ117 => ?_)
                        refine r_aload_n C dX12_person_132 rfl ?_
                        refine r_getF0 C dX12_person_133 fg_X12_37 (by decide) ?_
                        refine r_aload_n C dX12_person_136 rfl ?_
                        refine r_getI0 C dX12_person_137 fg_X12_164 (by decide) ?_
                        refine r_iload_n C dX12_person_140 rfl ?_
                        refine r_iast C dX12_person_141 ag_LM_10 (fun i118 => ?_)
                        refine WA.gen (fun σ119 => ?_)
                        refine r_aload_n C dX12_person_142 rfl ?_
                        refine r_getF0 C dX12_person_143 fg_X12_40 (by decide) ?_
                        refine r_aload_n C dX12_person_146 rfl ?_
                        refine r_getI0 C dX12_person_147 fg_X12_164 (by decide) ?_
                        refine r_iload C dX12_person_150 rfl ?_
                        refine r_iast C dX12_person_152 ag_LM_11 (fun i120 => ?_)
                        refine WA.gen (fun σ121 => ?_)
                        refine r_aload_n C dX12_person_153 rfl ?_
                        refine r_getF0 C dX12_person_154 fg_X12_49 (by decide) ?_
                        refine r_aload_n C dX12_person_157 rfl ?_
                        refine r_getI0 C dX12_person_158 fg_X12_164 (by decide) ?_
                        refine r_iconst C (-1 : Int32) dX12_person_161 (by decide) ?_
                        refine r_iast C dX12_person_162 ag_LM_14 (fun i122 => ?_)
                        refine WA.gen (fun σ123 => ?_)
                        refine r_aload_n C dX12_person_163 rfl ?_
                        refine r_getF0 C dX12_person_164 fg_X12_52 (by decide) ?_
                        refine r_aload_n C dX12_person_167 rfl ?_
                        refine r_getI0 C dX12_person_168 fg_X12_164 (by decide) ?_
                        refine r_iconst C (-1 : Int32) dX12_person_171 (by decide) ?_
                        refine r_iast C dX12_person_172 ag_LM_15 (fun i124 => ?_)
                        refine WA.gen (fun σ125 => ?_)
                        refine r_aload_n C dX12_person_173 rfl ?_
                        refine r_getF0 C dX12_person_174 fg_X12_55 (by decide) ?_
                        refine r_aload_n C dX12_person_177 rfl ?_
                        refine r_getI0 C dX12_person_178 fg_X12_164 (by decide) ?_
                        refine r_iconst C (-1 : Int32) dX12_person_181 (by decide) ?_
                        refine r_iast C dX12_person_182 ag_LM_16 (fun i126 => ?_)
                        refine WA.gen (fun σ127 => ?_)
                        refine r_aload_n C dX12_person_183 rfl ?_
                        refine r_dup C dX12_person_184 rfl ?_
                        refine r_getI0 C dX12_person_185 fg_X12_164 (by decide) ?_
                        refine r_iconst C (1 : Int32) dX12_person_188 (by decide) ?_
                        refine r_iadd C dX12_person_189 ?_
                        refine r_putI0 C dX12_person_190 fp_X12_164 (by decide) ?_
                        refine WA.gen (fun σ128 => ?_)
                        refine r_aload_n C dX12_person_193 rfl ?_
                        refine r_getI0 C dX12_person_194 fg_X12_164 (by decide) ?_
                        refine r_iconst C (1 : Int32) dX12_person_197 (by decide) ?_
                        refine r_isub C dX12_person_198 ?_
                        exact r_iret C dX12_person_199 rfl rfl trivial
                      · refine r_aload_n C dX12_person_95 rfl ?_
                        refine r_bipush C (-6 : Int32) dX12_person_96 (by decide) ?_
                        refine r_callV C (st := []) (As := [.int (-6 : Int32)]) (d := 0) (j := 0) dX12_person_98 ml_X12_174 vw_X12_refuse ⟨_, _, _, _, rfl, rfl⟩ (dm0 (by decide)) (fun r129 e => c_m_refuse Θ.1.2.1 (cW Θ) (cAd Θ) (cN Θ) σ (-6 : Int32) r129 e) rfl rfl (Nat.le_of_ble_eq_true rfl) ⟨rfl, rfl, by decide, by decide⟩ (fun r129 h130 => ?_)
                        exact r_iret C dX12_person_101 rfl rfl trivial
              · refine r_aload_n C dX12_person_56 rfl ?_
                refine r_bipush C (-4 : Int32) dX12_person_57 (by decide) ?_
                refine r_callV C (st := []) (As := [.int (-4 : Int32)]) (d := 0) (j := 0) dX12_person_59 ml_X12_174 vw_X12_refuse ⟨_, _, _, _, rfl, rfl⟩ (dm0 (by decide)) (fun r131 e => c_m_refuse Θ.1.2.1 (cW Θ) (cAd Θ) (cN Θ) σ (-4 : Int32) r131 e) rfl rfl (Nat.le_of_ble_eq_true rfl) ⟨rfl, rfl, by decide, by decide⟩ (fun r131 h132 => ?_)
                exact r_iret C dX12_person_62 rfl rfl trivial
        · refine r_aload_n C dX12_person_31 rfl ?_
          refine r_bipush C (-3 : Int32) dX12_person_32 (by decide) ?_
          refine r_callV C (st := []) (As := [.int (-3 : Int32)]) (d := 0) (j := 0) dX12_person_34 ml_X12_174 vw_X12_refuse ⟨_, _, _, _, rfl, rfl⟩ (dm0 (by decide)) (fun r133 e => c_m_refuse Θ.1.2.1 (cW Θ) (cAd Θ) (cN Θ) σ (-3 : Int32) r133 e) rfl rfl (Nat.le_of_ble_eq_true rfl) ⟨rfl, rfl, by decide, by decide⟩ (fun r133 h134 => ?_)
          exact r_iret C dX12_person_37 rfl rfl trivial
    · refine r_aload_n C dX12_person_13 rfl ?_
      refine r_iconst C (-1 : Int32) dX12_person_14 (by decide) ?_
      refine r_callV C (st := []) (As := [.int (-1 : Int32)]) (d := 0) (j := 0) dX12_person_15 ml_X12_174 vw_X12_refuse ⟨_, _, _, _, rfl, rfl⟩ (dm0 (by decide)) (fun r135 e => c_m_refuse Θ.1.2.1 (cW Θ) (cAd Θ) (cN Θ) σ (-1 : Int32) r135 e) rfl rfl (Nat.le_of_ble_eq_true rfl) ⟨rfl, rfl, by decide, by decide⟩ (fun r135 h136 => ?_)
      exact r_iret C dX12_person_18 rfl rfl trivial
theorem c_m_person (l : Launch) (ω : Wd) (ad : Nat → Nat → Nat) (N : Nat → Nat) (σ : St) (a1 : Int32) (a2 : Int32) (a3 : Int32) (a4 : Int32) : ∀ r : Int32 × St, m_person σ a1 a2 a3 a4 = some r → Ct l yX12_person cX12_person 5 (some .int) ({ frames := 2, cells := 0, slots := 0, locals := 43 } : Room) LM ω ad N [.ref (ω.2.1 0), .int a1, .int a2, .int a3, .int a4] σ (some (.int r.1)) r.2 (True) :=
  ct_of (o := fun r : Int32 × St => (some (.int r.1))) (s' := fun r => r.2) (P := fun r => True) [some (.ref (ω.2.1 0)), some (.int a1), some (.int a2), some (.int a3), some (.int a4)] (by decide) rfl (Nat.le_of_ble_eq_true rfl) (fun Γ C _ _ => w_m_person (Γ, ω, 5, ad, N, 0, 0) σ a1 a2 a3 a4 C)
