/-! ===== what level 2 owes: each call of both answers, the same, and keeps Inv ===== -/
def S_days (Inv : St → St → (Nat → Nat) → Prop) : Prop := ∀ (σ τ : St) (N : Nat → Nat) (a1 : Int32), Inv σ τ N → ∃ (r : Int32) (σ' τ' : St), p_PE_days σ a1 = some (r, σ') ∧ m_days τ a1 = some (r, τ') ∧ Inv σ' τ' N
def S_unit (Inv : St → St → (Nat → Nat) → Prop) : Prop := ∀ (σ τ : St) (N : Nat → Nat) (a1 a2 : Int32), Inv σ τ N → ∃ (r : Int32) (σ' τ' : St), p_PE_unit σ a1 a2 = some (r, σ') ∧ m_unit τ a1 a2 = some (r, τ') ∧ Inv σ' τ' N
def S_post (Inv : St → St → (Nat → Nat) → Prop) : Prop := ∀ (σ τ : St) (N : Nat → Nat) (a1 a2 a3 a4 a5 : Int32), Inv σ τ N → ∃ (r : Int32) (σ' τ' : St) (n' : Nat), p_PE_post σ (N 1) a1 a2 a3 a4 a5 = some ((r, σ'), n') ∧ m_post τ a1 a2 a3 a4 a5 = some (r, τ') ∧ Inv σ' τ' (nup N 1 n')
def S_end (Inv : St → St → (Nat → Nat) → Prop) : Prop := ∀ (σ τ : St) (N : Nat → Nat) (a1 : Int32), Inv σ τ N → ∃ (r : Int32) (σ' τ' : St), p_PE_end σ a1 = some (r, σ') ∧ m_end τ a1 = some (r, τ') ∧ Inv σ' τ' N
def S_set (Inv : St → St → (Nat → Nat) → Prop) : Prop := ∀ (σ τ : St) (N : Nat → Nat) (a1 a2 : Int32), Inv σ τ N → ∃ (r : Int32) (σ' τ' : St), p_PE_set σ a1 a2 = some (r, σ') ∧ m_set τ a1 a2 = some (r, τ') ∧ Inv σ' τ' N
def S_person (Inv : St → St → (Nat → Nat) → Prop) : Prop := ∀ (σ τ : St) (N : Nat → Nat) (a1 a2 a3 a4 : Int32), Inv σ τ N → ∃ (r : Int32) (σ' τ' : St) (n' : Nat), p_PE_person σ (N 2) a1 a2 a3 a4 = some ((r, σ'), n') ∧ m_person τ a1 a2 a3 a4 = some (r, τ') ∧ Inv σ' τ' (nup N 2 n')
def S_protect (Inv : St → St → (Nat → Nat) → Prop) : Prop := ∀ (σ τ : St) (N : Nat → Nat) (a1 a2 : Int32), Inv σ τ N → ∃ (r : Int32) (σ' τ' : St), p_PE_protect σ a1 a2 = some (r, σ') ∧ m_protect τ a1 a2 = some (r, τ') ∧ Inv σ' τ' N
def S_move (Inv : St → St → (Nat → Nat) → Prop) : Prop := ∀ (σ τ : St) (N : Nat → Nat) (a1 a2 : Int32), Inv σ τ N → ∃ (r : Int32) (σ' τ' : St), p_PE_move σ a1 a2 = some (r, σ') ∧ m_move τ a1 a2 = some (r, τ') ∧ Inv σ' τ' N
def S_leave (Inv : St → St → (Nat → Nat) → Prop) : Prop := ∀ (σ τ : St) (N : Nat → Nat) (a1 : Int32), Inv σ τ N → ∃ (r : Int32) (σ' τ' : St), p_PE_leave σ a1 = some (r, σ') ∧ m_leave τ a1 = some (r, τ') ∧ Inv σ' τ' N
def S_weight (Inv : St → St → (Nat → Nat) → Prop) : Prop := ∀ (σ τ : St) (N : Nat → Nat) (a1 a2 : Int32), Inv σ τ N → ∃ (r : Int32) (σ' τ' : St), p_PE_weight σ a1 a2 = some (r, σ') ∧ m_weight τ a1 a2 = some (r, τ') ∧ Inv σ' τ' N
def S_tell (Inv : St → St → (Nat → Nat) → Prop) : Prop := ∀ (σ τ : St) (N : Nat → Nat) (a1 a2 a3 : Int32), Inv σ τ N → ∃ (r : Int32) (σ' τ' : St) (n' : Nat), p_PE_tell σ (N 3) a1 a2 a3 = some ((r, σ'), n') ∧ m_tell τ a1 a2 a3 = some (r, τ') ∧ Inv σ' τ' (nup N 3 n')
def S_right (Inv : St → St → (Nat → Nat) → Prop) : Prop := ∀ (σ τ : St) (N : Nat → Nat) (a1 a2 : Int32), Inv σ τ N → ∃ (r : Int32) (σ' τ' : St) (n' : Nat), p_PE_right σ (N 4) a1 a2 = some ((r, σ'), n') ∧ m_right τ a1 a2 = some (r, τ') ∧ Inv σ' τ' (nup N 4 n')
def S_mark (Inv : St → St → (Nat → Nat) → Prop) : Prop := ∀ (σ τ : St) (N : Nat → Nat) (a1 a2 a3 : Int32), Inv σ τ N → ∃ (r : Int32) (σ' τ' : St), p_PE_mark σ a1 a2 a3 = some (r, σ') ∧ m_mark τ a1 a2 a3 = some (r, τ') ∧ Inv σ' τ' N
def S_pools (Inv : St → St → (Nat → Nat) → Prop) : Prop := ∀ (σ τ : St) (N : Nat → Nat) (a1 : Int32), Inv σ τ N → ∃ (r : Int32) (σ' τ' : St), p_PE_pools σ a1 = some (r, σ') ∧ m_pools τ a1 = some (r, τ') ∧ Inv σ' τ' N
def S_poolOf (Inv : St → St → (Nat → Nat) → Prop) : Prop := ∀ (σ τ : St) (N : Nat → Nat) (a1 a2 : Int32), Inv σ τ N → ∃ (r : Int32) (σ' τ' : St), p_PE_poolOf σ a1 a2 = some (r, σ') ∧ m_poolOf τ a1 a2 = some (r, τ') ∧ Inv σ' τ' N
def S_cut (Inv : St → St → (Nat → Nat) → Prop) : Prop := ∀ (σ τ : St) (N : Nat → Nat) (a1 a2 a3 a4 : Int32), Inv σ τ N → ∃ (r : Int32) (σ' τ' : St), p_PE_cut σ a1 a2 a3 a4 = some (r, σ') ∧ m_cut τ a1 a2 a3 a4 = some (r, τ') ∧ Inv σ' τ' N
def S_volunteer (Inv : St → St → (Nat → Nat) → Prop) : Prop := ∀ (σ τ : St) (N : Nat → Nat) (a1 a2 : Int32), Inv σ τ N → ∃ (r : Int32) (σ' τ' : St), p_PE_volunteer σ a1 a2 = some (r, σ') ∧ m_volunteer τ a1 a2 = some (r, τ') ∧ Inv σ' τ' N
def S_severance (Inv : St → St → (Nat → Nat) → Prop) : Prop := ∀ (σ τ : St) (N : Nat → Nat) (a1 : Int32), Inv σ τ N → ∃ (r : Int32) (σ' τ' : St), p_PE_severance σ a1 = some (r, σ') ∧ m_severance τ a1 = some (r, τ') ∧ Inv σ' τ' N
def S_choice (Inv : St → St → (Nat → Nat) → Prop) : Prop := ∀ (σ τ : St) (N : Nat → Nat) (a1 a2 a3 a4 : Int32), Inv σ τ N → ∃ (r : Int32) (σ' τ' : St), p_PE_choice σ a1 a2 a3 a4 = some (r, σ') ∧ m_choice τ a1 a2 a3 a4 = some (r, τ') ∧ Inv σ' τ' N
def S_chosen (Inv : St → St → (Nat → Nat) → Prop) : Prop := ∀ (σ τ : St) (N : Nat → Nat) (a1 a2 a3 a4 : Int32), Inv σ τ N → ∃ (r : Int32) (σ' τ' : St), p_PE_chosen σ a1 a2 a3 a4 = some (r, σ') ∧ m_chosen τ a1 a2 a3 a4 = some (r, τ') ∧ Inv σ' τ' N
def S_chain (Inv : St → St → (Nat → Nat) → Prop) : Prop := ∀ (σ τ : St) (N : Nat → Nat) (a1 : Int32), Inv σ τ N → ∃ (r : Int32) (σ' τ' : St), p_PE_chain σ a1 = some (r, σ') ∧ m_chain τ a1 = some (r, τ') ∧ Inv σ' τ' N
def S_chainOf (Inv : St → St → (Nat → Nat) → Prop) : Prop := ∀ (σ τ : St) (N : Nat → Nat) (a1 a2 a3 : Int32), Inv σ τ N → ∃ (r : Int32) (σ' τ' : St), p_PE_chainOf σ a1 a2 a3 = some (r, σ') ∧ m_chainOf τ a1 a2 a3 = some (r, τ') ∧ Inv σ' τ' N
def S_leaver (Inv : St → St → (Nat → Nat) → Prop) : Prop := ∀ (σ τ : St) (N : Nat → Nat) (a1 : Int32), Inv σ τ N → ∃ (r : Int32) (σ' τ' : St), p_PE_leaver σ a1 = some (r, σ') ∧ m_leaver τ a1 = some (r, τ') ∧ Inv σ' τ' N
def S_clear (Inv : St → St → (Nat → Nat) → Prop) : Prop := ∀ (σ τ : St) (N : Nat → Nat), Inv σ τ N → ∃ (r : Int32) (σ' τ' : St), p_PE_clear σ  = some (r, σ') ∧ m_clear τ  = some (r, τ') ∧ Inv σ' τ' N
def S_fit (Inv : St → St → (Nat → Nat) → Prop) : Prop := ∀ (σ τ : St) (N : Nat → Nat) (a1 a2 : Int32), Inv σ τ N → ∃ (r : Int32) (σ' τ' : St), p_PE_fit σ a1 a2 = some (r, σ') ∧ m_fit τ a1 a2 = some (r, τ') ∧ Inv σ' τ' N
def S_offers (Inv : St → St → (Nat → Nat) → Prop) : Prop := ∀ (σ τ : St) (N : Nat → Nat) (a1 : Int32), Inv σ τ N → ∃ (r : Int32) (σ' τ' : St), p_PE_offers σ a1 = some (r, σ') ∧ m_offers τ a1 = some (r, τ') ∧ Inv σ' τ' N
def S_offered (Inv : St → St → (Nat → Nat) → Prop) : Prop := ∀ (σ τ : St) (N : Nat → Nat) (a1 : Int32), Inv σ τ N → ∃ (r : Int32) (σ' τ' : St), p_PE_offered σ a1 = some (r, σ') ∧ m_offered τ a1 = some (r, τ') ∧ Inv σ' τ' N
def S_ends (Inv : St → St → (Nat → Nat) → Prop) : Prop := ∀ (σ τ : St) (N : Nat → Nat) (a1 a2 a3 : Int32), Inv σ τ N → ∃ (r : Int32) (σ' τ' : St), p_PE_ends σ a1 a2 a3 = some (r, σ') ∧ m_ends τ a1 a2 a3 = some (r, τ') ∧ Inv σ' τ' N
def S_notice (Inv : St → St → (Nat → Nat) → Prop) : Prop := ∀ (σ τ : St) (N : Nat → Nat) (a1 a2 : Int32), Inv σ τ N → ∃ (r : Int32) (σ' τ' : St), p_PE_notice σ a1 a2 = some (r, σ') ∧ m_notice τ a1 a2 = some (r, τ') ∧ Inv σ' τ' N
def S_weeks (Inv : St → St → (Nat → Nat) → Prop) : Prop := ∀ (σ τ : St) (N : Nat → Nat) (a1 a2 a3 a4 a5 : Int32), Inv σ τ N → ∃ (r : Int32) (σ' τ' : St), p_PE_weeks σ a1 a2 a3 a4 a5 = some (r, σ') ∧ m_weeks τ a1 a2 a3 a4 a5 = some (r, τ') ∧ Inv σ' τ' N
def S_weekOf (Inv : St → St → (Nat → Nat) → Prop) : Prop := ∀ (σ τ : St) (N : Nat → Nat) (a1 a2 a3 a4 a5 a6 : Int32), Inv σ τ N → ∃ (r : Int32) (σ' τ' : St), p_PE_weekOf σ a1 a2 a3 a4 a5 a6 = some (r, σ') ∧ m_weekOf τ a1 a2 a3 a4 a5 a6 = some (r, τ') ∧ Inv σ' τ' N
def S_turning (Inv : St → St → (Nat → Nat) → Prop) : Prop := ∀ (σ τ : St) (N : Nat → Nat) (a1 a2 a3 a4 a5 : Int32), Inv σ τ N → ∃ (r : Int32) (σ' τ' : St), p_PE_turning σ a1 a2 a3 a4 a5 = some (r, σ') ∧ m_turning τ a1 a2 a3 a4 a5 = some (r, τ') ∧ Inv σ' τ' N
def S_moved (Inv : St → St → (Nat → Nat) → Prop) : Prop := ∀ (σ τ : St) (N : Nat → Nat) (a1 a2 a3 a4 a5 : Int32), Inv σ τ N → ∃ (r : Int32) (σ' τ' : St), p_PE_moved σ a1 a2 a3 a4 a5 = some (r, σ') ∧ m_moved τ a1 a2 a3 a4 a5 = some (r, τ') ∧ Inv σ' τ' N
def S_back (Inv : St → St → (Nat → Nat) → Prop) : Prop := ∀ (σ τ : St) (N : Nat → Nat) (a1 : Int32), Inv σ τ N → ∃ (r : Int32) (σ' τ' : St), p_PE_back σ a1 = some (r, σ') ∧ m_back τ a1 = some (r, τ') ∧ Inv σ' τ' N
def S_count (Inv : St → St → (Nat → Nat) → Prop) : Prop := ∀ (σ τ : St) (N : Nat → Nat) (a1 : Int32), Inv σ τ N → ∃ (r : Int32), p_PE_count σ a1 = some r ∧ m_count τ a1 = some r
def Sims (Inv : St → St → (Nat → Nat) → Prop) : Prop := S_days Inv ∧ S_unit Inv ∧ S_post Inv ∧ S_end Inv ∧ S_set Inv ∧ S_person Inv ∧ S_protect Inv ∧ S_move Inv ∧ S_leave Inv ∧ S_weight Inv ∧ S_tell Inv ∧ S_right Inv ∧ S_mark Inv ∧ S_pools Inv ∧ S_poolOf Inv ∧ S_cut Inv ∧ S_volunteer Inv ∧ S_severance Inv ∧ S_choice Inv ∧ S_chosen Inv ∧ S_chain Inv ∧ S_chainOf Inv ∧ S_leaver Inv ∧ S_clear Inv ∧ S_fit Inv ∧ S_offers Inv ∧ S_offered Inv ∧ S_ends Inv ∧ S_notice Inv ∧ S_weeks Inv ∧ S_weekOf Inv ∧ S_turning Inv ∧ S_moved Inv ∧ S_back Inv ∧ S_count Inv
theorem vw_X11_days : VW yX11_days cX11_days 2 (some .int) 1 := ⟨⟨(in_wt 80 (by decide +kernel) (by decide +kernel)), (in_wt 410 (by decide +kernel) (by decide +kernel)), by decide +kernel⟩, (in_wt 408 (by decide +kernel) (by decide +kernel)), (in_wt 409 (by decide +kernel) (by decide +kernel))⟩
theorem vw_X12_days : VW yX12_days cX12_days 2 (some .int) 1 := ⟨⟨(in_wt 88 (by decide +kernel) (by decide +kernel)), (in_wt 1437 (by decide +kernel) (by decide +kernel)), by decide +kernel⟩, (in_wt 1435 (by decide +kernel) (by decide +kernel)), (in_wt 1436 (by decide +kernel) (by decide +kernel))⟩
theorem ml_L_13 : Cond.methodLink R_law 13 yX11_days ∈ wt := in_wt 407 (by decide +kernel) (by decide +kernel)
theorem ml_L_17 : Cond.methodLink R_law 17 yX12_days ∈ wt := in_wt 1434 (by decide +kernel) (by decide +kernel)
set_option maxRecDepth 20000 in
set_option maxHeartbeats 4000000 in
theorem lc_days {Γ : CT} {b L : Nat} {xs : Nat → Int32} {ω1 ω2 : Wd} {Q : State → Prop} {k z : Nat} {σ τ : St} {ad : Nat → Nat → Nat} {N : Nat → Nat} (X : LX Γ b L xs ω1 ω2) {Inv : St → St → (Nat → Nat) → Prop} (S : S_days Inv) {i : Nat} (hi : i + 7 ≤ L) (hL : L < 2 ^ 31) (hI : Inv σ τ N) (hk : k + 1 ≤ 600000) (hz : z + 11 ≤ 7302250) (next : ∀ σ' τ' ad' N', Inv σ' τ' N' → WJ Γ b ω1 ω2 Q (k + 1) (z + 11) 1495 (nI i) [] σ' τ' ad' N') : WJ Γ b ω1 ω2 Q k z 188 (nI i) [] σ τ ad N := by
  obtain ⟨r, σ', τ', h1, h2, h3⟩ := S σ τ N (xs (i + 1)) hI
  refine j_aload1 X dL_law_188 ?_
  refine j_arg X 1 (v := 1) (by decide) (by rfl) dL_law_189 dL_law_190 dL_law_191 dL_law_192 dL_law_193 (by omega) hL ?_
  refine j_callC X (st := []) (As := [.int (xs (i + 1))]) dL_law_194 ml_L_13 vw_X11_days rfl (c_p_PE_days Γ.2.1 (setA ω1 (Ac ω1 ω2)) ad N σ (xs (i + 1)) (r, σ') h1) rfl rfl (Nat.le_of_ble_eq_true rfl) ⟨rfl, rfl, by decide, by decide⟩ (by show _ ≤ 600000; omega) (by show _ ≤ 7302250; omega) ?_
  refine j_aload2 X dL_law_197 ?_
  refine j_arg X 1 (v := 1) (by decide) (by rfl) dL_law_198 dL_law_199 dL_law_200 dL_law_201 dL_law_202 (by omega) hL ?_
  refine j_callM X (st := [.int r]) (As := [.int (xs (i + 1))]) dL_law_203 ml_L_17 vw_X12_days rfl (c_m_days Γ.2.1 (setA ω2 (Am ω1 ad N)) ad0 N0 τ (xs (i + 1)) (r, τ') h2) rfl rfl (Nat.le_of_ble_eq_true rfl) ⟨rfl, rfl, by decide, by decide⟩ (by show _ ≤ 600000; omega) (by show _ ≤ 7302250; omega) ?_
  refine j_same X 1495 dL_law_206 (by decide) ?_
  exact WJ.wide (k' := k + 1) (z' := z + 11) (by omega) (by omega) (next σ' τ' ad N h3)
theorem vw_X11_unit : VW yX11_unit cX11_unit 3 (some .int) 2 := ⟨⟨(in_wt 80 (by decide +kernel) (by decide +kernel)), (in_wt 418 (by decide +kernel) (by decide +kernel)), by decide +kernel⟩, (in_wt 416 (by decide +kernel) (by decide +kernel)), (in_wt 417 (by decide +kernel) (by decide +kernel))⟩
theorem vw_X12_unit : VW yX12_unit cX12_unit 3 (some .int) 2 := ⟨⟨(in_wt 88 (by decide +kernel) (by decide +kernel)), (in_wt 1445 (by decide +kernel) (by decide +kernel)), by decide +kernel⟩, (in_wt 1443 (by decide +kernel) (by decide +kernel)), (in_wt 1444 (by decide +kernel) (by decide +kernel))⟩
theorem ml_L_18 : Cond.methodLink R_law 18 yX11_unit ∈ wt := in_wt 415 (by decide +kernel) (by decide +kernel)
theorem ml_L_22 : Cond.methodLink R_law 22 yX12_unit ∈ wt := in_wt 1442 (by decide +kernel) (by decide +kernel)
set_option maxRecDepth 20000 in
set_option maxHeartbeats 4000000 in
theorem lc_unit {Γ : CT} {b L : Nat} {xs : Nat → Int32} {ω1 ω2 : Wd} {Q : State → Prop} {k z : Nat} {σ τ : St} {ad : Nat → Nat → Nat} {N : Nat → Nat} (X : LX Γ b L xs ω1 ω2) {Inv : St → St → (Nat → Nat) → Prop} (S : S_unit Inv) {i : Nat} (hi : i + 7 ≤ L) (hL : L < 2 ^ 31) (hI : Inv σ τ N) (hk : k + 1 ≤ 600000) (hz : z + 11 ≤ 7302250) (next : ∀ σ' τ' ad' N', Inv σ' τ' N' → WJ Γ b ω1 ω2 Q (k + 1) (z + 11) 1495 (nI i) [] σ' τ' ad' N') : WJ Γ b ω1 ω2 Q k z 211 (nI i) [] σ τ ad N := by
  obtain ⟨r, σ', τ', h1, h2, h3⟩ := S σ τ N (xs (i + 1)) (xs (i + 2)) hI
  refine j_aload1 X dL_law_211 ?_
  refine j_arg X 1 (v := 1) (by decide) (by rfl) dL_law_212 dL_law_213 dL_law_214 dL_law_215 dL_law_216 (by omega) hL ?_
  refine j_arg X 2 (v := 2) (by decide) (by rfl) dL_law_217 dL_law_218 dL_law_219 dL_law_220 dL_law_221 (by omega) hL ?_
  refine j_callC X (st := []) (As := [.int (xs (i + 1)), .int (xs (i + 2))]) dL_law_222 ml_L_18 vw_X11_unit rfl (c_p_PE_unit Γ.2.1 (setA ω1 (Ac ω1 ω2)) ad N σ (xs (i + 1)) (xs (i + 2)) (r, σ') h1) rfl rfl (Nat.le_of_ble_eq_true rfl) ⟨rfl, rfl, by decide, by decide⟩ (by show _ ≤ 600000; omega) (by show _ ≤ 7302250; omega) ?_
  refine j_aload2 X dL_law_225 ?_
  refine j_arg X 1 (v := 1) (by decide) (by rfl) dL_law_226 dL_law_227 dL_law_228 dL_law_229 dL_law_230 (by omega) hL ?_
  refine j_arg X 2 (v := 2) (by decide) (by rfl) dL_law_231 dL_law_232 dL_law_233 dL_law_234 dL_law_235 (by omega) hL ?_
  refine j_callM X (st := [.int r]) (As := [.int (xs (i + 1)), .int (xs (i + 2))]) dL_law_236 ml_L_22 vw_X12_unit rfl (c_m_unit Γ.2.1 (setA ω2 (Am ω1 ad N)) ad0 N0 τ (xs (i + 1)) (xs (i + 2)) (r, τ') h2) rfl rfl (Nat.le_of_ble_eq_true rfl) ⟨rfl, rfl, by decide, by decide⟩ (by show _ ≤ 600000; omega) (by show _ ≤ 7302250; omega) ?_
  refine j_same X 1495 dL_law_239 (by decide) ?_
  exact WJ.wide (k' := k + 1) (z' := z + 11) (by omega) (by omega) (next σ' τ' ad N h3)
theorem vw_X11_post : VW yX11_post cX11_post 6 (some .int) 5 := ⟨⟨(in_wt 80 (by decide +kernel) (by decide +kernel)), (in_wt 431 (by decide +kernel) (by decide +kernel)), by decide +kernel⟩, (in_wt 429 (by decide +kernel) (by decide +kernel)), (in_wt 430 (by decide +kernel) (by decide +kernel))⟩
theorem vw_X12_post : VW yX12_post cX12_post 6 (some .int) 5 := ⟨⟨(in_wt 88 (by decide +kernel) (by decide +kernel)), (in_wt 1452 (by decide +kernel) (by decide +kernel)), by decide +kernel⟩, (in_wt 1450 (by decide +kernel) (by decide +kernel)), (in_wt 1451 (by decide +kernel) (by decide +kernel))⟩
theorem ml_L_23 : Cond.methodLink R_law 23 yX11_post ∈ wt := in_wt 428 (by decide +kernel) (by decide +kernel)
theorem ml_L_27 : Cond.methodLink R_law 27 yX12_post ∈ wt := in_wt 1449 (by decide +kernel) (by decide +kernel)
set_option maxRecDepth 20000 in
set_option maxHeartbeats 4000000 in
theorem lc_post {Γ : CT} {b L : Nat} {xs : Nat → Int32} {ω1 ω2 : Wd} {Q : State → Prop} {k z : Nat} {σ τ : St} {ad : Nat → Nat → Nat} {N : Nat → Nat} (X : LX Γ b L xs ω1 ω2) {Inv : St → St → (Nat → Nat) → Prop} (S : S_post Inv) {i : Nat} (hi : i + 7 ≤ L) (hL : L < 2 ^ 31) (hI : Inv σ τ N) (hk : k + 1 ≤ 600000) (hz : z + 11 ≤ 7302250) (next : ∀ σ' τ' ad' N', Inv σ' τ' N' → WJ Γ b ω1 ω2 Q (k + 1) (z + 11) 1495 (nI i) [] σ' τ' ad' N') : WJ Γ b ω1 ω2 Q k z 244 (nI i) [] σ τ ad N := by
  obtain ⟨r, σ', τ', n', h1, h2, h3⟩ := S σ τ N (xs (i + 1)) (xs (i + 2)) (xs (i + 3)) (xs (i + 4)) (xs (i + 5)) hI
  refine j_aload1 X dL_law_244 ?_
  refine j_arg X 1 (v := 1) (by decide) (by rfl) dL_law_245 dL_law_246 dL_law_247 dL_law_248 dL_law_249 (by omega) hL ?_
  refine j_arg X 2 (v := 2) (by decide) (by rfl) dL_law_250 dL_law_251 dL_law_252 dL_law_253 dL_law_254 (by omega) hL ?_
  refine j_arg X 3 (v := 3) (by decide) (by rfl) dL_law_255 dL_law_256 dL_law_257 dL_law_258 dL_law_259 (by omega) hL ?_
  refine j_arg X 4 (v := 4) (by decide) (by rfl) dL_law_260 dL_law_261 dL_law_262 dL_law_263 dL_law_264 (by omega) hL ?_
  refine j_arg X 5 (v := 5) (by decide) (by rfl) dL_law_265 dL_law_266 dL_law_267 dL_law_268 dL_law_269 (by omega) hL ?_
  refine j_callA X (st := []) (As := [.int (xs (i + 1)), .int (xs (i + 2)), .int (xs (i + 3)), .int (xs (i + 4)), .int (xs (i + 5))]) dL_law_270 ml_L_23 vw_X11_post rfl (c_p_PE_post Γ.2.1 (setA ω1 (Ac ω1 ω2)) ad N σ (N 1) (xs (i + 1)) (xs (i + 2)) (xs (i + 3)) (xs (i + 4)) (xs (i + 5)) rfl ((r, σ'), n') h1) rfl rfl (Nat.le_of_ble_eq_true rfl) ⟨rfl, rfl, by decide, by decide⟩ (by show _ ≤ 600000; omega) (by show _ ≤ 7302250; omega) (fun ad' => ?_)
  refine j_aload2 X dL_law_273 ?_
  refine j_arg X 1 (v := 1) (by decide) (by rfl) dL_law_274 dL_law_275 dL_law_276 dL_law_277 dL_law_278 (by omega) hL ?_
  refine j_arg X 2 (v := 2) (by decide) (by rfl) dL_law_279 dL_law_280 dL_law_281 dL_law_282 dL_law_283 (by omega) hL ?_
  refine j_arg X 3 (v := 3) (by decide) (by rfl) dL_law_284 dL_law_285 dL_law_286 dL_law_287 dL_law_288 (by omega) hL ?_
  refine j_arg X 4 (v := 4) (by decide) (by rfl) dL_law_289 dL_law_290 dL_law_291 dL_law_292 dL_law_293 (by omega) hL ?_
  refine j_arg X 5 (v := 5) (by decide) (by rfl) dL_law_294 dL_law_295 dL_law_296 dL_law_297 dL_law_298 (by omega) hL ?_
  refine j_callM X (st := [.int r]) (As := [.int (xs (i + 1)), .int (xs (i + 2)), .int (xs (i + 3)), .int (xs (i + 4)), .int (xs (i + 5))]) dL_law_299 ml_L_27 vw_X12_post rfl (c_m_post Γ.2.1 (setA ω2 (Am ω1 ad' (nup N 1 n'))) ad0 N0 τ (xs (i + 1)) (xs (i + 2)) (xs (i + 3)) (xs (i + 4)) (xs (i + 5)) (r, τ') h2) rfl rfl (Nat.le_of_ble_eq_true rfl) ⟨rfl, rfl, by decide, by decide⟩ (by show _ ≤ 600000; omega) (by show _ ≤ 7302250; omega) ?_
  refine j_same X 1495 dL_law_302 (by decide) ?_
  exact WJ.wide (k' := k + 1) (z' := z + 11) (by omega) (by omega) (next σ' τ' ad' (nup N 1 n') h3)
theorem vw_X11_end : VW yX11_end cX11_end 3 (some .int) 1 := ⟨⟨(in_wt 80 (by decide +kernel) (by decide +kernel)), (in_wt 485 (by decide +kernel) (by decide +kernel)), by decide +kernel⟩, (in_wt 483 (by decide +kernel) (by decide +kernel)), (in_wt 484 (by decide +kernel) (by decide +kernel))⟩
theorem vw_X12_end : VW yX12_end cX12_end 3 (some .int) 1 := ⟨⟨(in_wt 88 (by decide +kernel) (by decide +kernel)), (in_wt 1460 (by decide +kernel) (by decide +kernel)), by decide +kernel⟩, (in_wt 1458 (by decide +kernel) (by decide +kernel)), (in_wt 1459 (by decide +kernel) (by decide +kernel))⟩
theorem ml_L_28 : Cond.methodLink R_law 28 yX11_end ∈ wt := in_wt 482 (by decide +kernel) (by decide +kernel)
theorem ml_L_31 : Cond.methodLink R_law 31 yX12_end ∈ wt := in_wt 1457 (by decide +kernel) (by decide +kernel)
set_option maxRecDepth 20000 in
set_option maxHeartbeats 4000000 in
theorem lc_end {Γ : CT} {b L : Nat} {xs : Nat → Int32} {ω1 ω2 : Wd} {Q : State → Prop} {k z : Nat} {σ τ : St} {ad : Nat → Nat → Nat} {N : Nat → Nat} (X : LX Γ b L xs ω1 ω2) {Inv : St → St → (Nat → Nat) → Prop} (S : S_end Inv) {i : Nat} (hi : i + 7 ≤ L) (hL : L < 2 ^ 31) (hI : Inv σ τ N) (hk : k + 1 ≤ 600000) (hz : z + 11 ≤ 7302250) (next : ∀ σ' τ' ad' N', Inv σ' τ' N' → WJ Γ b ω1 ω2 Q (k + 1) (z + 11) 1495 (nI i) [] σ' τ' ad' N') : WJ Γ b ω1 ω2 Q k z 307 (nI i) [] σ τ ad N := by
  obtain ⟨r, σ', τ', h1, h2, h3⟩ := S σ τ N (xs (i + 1)) hI
  refine j_aload1 X dL_law_307 ?_
  refine j_arg X 1 (v := 1) (by decide) (by rfl) dL_law_308 dL_law_309 dL_law_310 dL_law_311 dL_law_312 (by omega) hL ?_
  refine j_callC X (st := []) (As := [.int (xs (i + 1))]) dL_law_313 ml_L_28 vw_X11_end rfl (c_p_PE_end Γ.2.1 (setA ω1 (Ac ω1 ω2)) ad N σ (xs (i + 1)) (r, σ') h1) rfl rfl (Nat.le_of_ble_eq_true rfl) ⟨rfl, rfl, by decide, by decide⟩ (by show _ ≤ 600000; omega) (by show _ ≤ 7302250; omega) ?_
  refine j_aload2 X dL_law_316 ?_
  refine j_arg X 1 (v := 1) (by decide) (by rfl) dL_law_317 dL_law_318 dL_law_319 dL_law_320 dL_law_321 (by omega) hL ?_
  refine j_callM X (st := [.int r]) (As := [.int (xs (i + 1))]) dL_law_322 ml_L_31 vw_X12_end rfl (c_m_end Γ.2.1 (setA ω2 (Am ω1 ad N)) ad0 N0 τ (xs (i + 1)) (r, τ') h2) rfl rfl (Nat.le_of_ble_eq_true rfl) ⟨rfl, rfl, by decide, by decide⟩ (by show _ ≤ 600000; omega) (by show _ ≤ 7302250; omega) ?_
  refine j_same X 1495 dL_law_325 (by decide) ?_
  exact WJ.wide (k' := k + 1) (z' := z + 11) (by omega) (by omega) (next σ' τ' ad N h3)
theorem vw_X11_set : VW yX11_set cX11_set 4 (some .int) 2 := ⟨⟨(in_wt 80 (by decide +kernel) (by decide +kernel)), (in_wt 505 (by decide +kernel) (by decide +kernel)), by decide +kernel⟩, (in_wt 503 (by decide +kernel) (by decide +kernel)), (in_wt 504 (by decide +kernel) (by decide +kernel))⟩
theorem vw_X12_set : VW yX12_set cX12_set 4 (some .int) 2 := ⟨⟨(in_wt 88 (by decide +kernel) (by decide +kernel)), (in_wt 1476 (by decide +kernel) (by decide +kernel)), by decide +kernel⟩, (in_wt 1474 (by decide +kernel) (by decide +kernel)), (in_wt 1475 (by decide +kernel) (by decide +kernel))⟩
theorem ml_L_32 : Cond.methodLink R_law 32 yX11_set ∈ wt := in_wt 502 (by decide +kernel) (by decide +kernel)
theorem ml_L_35 : Cond.methodLink R_law 35 yX12_set ∈ wt := in_wt 1473 (by decide +kernel) (by decide +kernel)
set_option maxRecDepth 20000 in
set_option maxHeartbeats 4000000 in
theorem lc_set {Γ : CT} {b L : Nat} {xs : Nat → Int32} {ω1 ω2 : Wd} {Q : State → Prop} {k z : Nat} {σ τ : St} {ad : Nat → Nat → Nat} {N : Nat → Nat} (X : LX Γ b L xs ω1 ω2) {Inv : St → St → (Nat → Nat) → Prop} (S : S_set Inv) {i : Nat} (hi : i + 7 ≤ L) (hL : L < 2 ^ 31) (hI : Inv σ τ N) (hk : k + 1 ≤ 600000) (hz : z + 11 ≤ 7302250) (next : ∀ σ' τ' ad' N', Inv σ' τ' N' → WJ Γ b ω1 ω2 Q (k + 1) (z + 11) 1495 (nI i) [] σ' τ' ad' N') : WJ Γ b ω1 ω2 Q k z 330 (nI i) [] σ τ ad N := by
  obtain ⟨r, σ', τ', h1, h2, h3⟩ := S σ τ N (xs (i + 1)) (xs (i + 2)) hI
  refine j_aload1 X dL_law_330 ?_
  refine j_arg X 1 (v := 1) (by decide) (by rfl) dL_law_331 dL_law_332 dL_law_333 dL_law_334 dL_law_335 (by omega) hL ?_
  refine j_arg X 2 (v := 2) (by decide) (by rfl) dL_law_336 dL_law_337 dL_law_338 dL_law_339 dL_law_340 (by omega) hL ?_
  refine j_callC X (st := []) (As := [.int (xs (i + 1)), .int (xs (i + 2))]) dL_law_341 ml_L_32 vw_X11_set rfl (c_p_PE_set Γ.2.1 (setA ω1 (Ac ω1 ω2)) ad N σ (xs (i + 1)) (xs (i + 2)) (r, σ') h1) rfl rfl (Nat.le_of_ble_eq_true rfl) ⟨rfl, rfl, by decide, by decide⟩ (by show _ ≤ 600000; omega) (by show _ ≤ 7302250; omega) ?_
  refine j_aload2 X dL_law_344 ?_
  refine j_arg X 1 (v := 1) (by decide) (by rfl) dL_law_345 dL_law_346 dL_law_347 dL_law_348 dL_law_349 (by omega) hL ?_
  refine j_arg X 2 (v := 2) (by decide) (by rfl) dL_law_350 dL_law_351 dL_law_352 dL_law_353 dL_law_354 (by omega) hL ?_
  refine j_callM X (st := [.int r]) (As := [.int (xs (i + 1)), .int (xs (i + 2))]) dL_law_355 ml_L_35 vw_X12_set rfl (c_m_set Γ.2.1 (setA ω2 (Am ω1 ad N)) ad0 N0 τ (xs (i + 1)) (xs (i + 2)) (r, τ') h2) rfl rfl (Nat.le_of_ble_eq_true rfl) ⟨rfl, rfl, by decide, by decide⟩ (by show _ ≤ 600000; omega) (by show _ ≤ 7302250; omega) ?_
  refine j_same X 1495 dL_law_358 (by decide) ?_
  exact WJ.wide (k' := k + 1) (z' := z + 11) (by omega) (by omega) (next σ' τ' ad N h3)
theorem vw_X11_person : VW yX11_person cX11_person 7 (some .int) 4 := ⟨⟨(in_wt 80 (by decide +kernel) (by decide +kernel)), (in_wt 513 (by decide +kernel) (by decide +kernel)), by decide +kernel⟩, (in_wt 511 (by decide +kernel) (by decide +kernel)), (in_wt 512 (by decide +kernel) (by decide +kernel))⟩
theorem vw_X12_person : VW yX12_person cX12_person 5 (some .int) 4 := ⟨⟨(in_wt 88 (by decide +kernel) (by decide +kernel)), (in_wt 1480 (by decide +kernel) (by decide +kernel)), by decide +kernel⟩, (in_wt 1478 (by decide +kernel) (by decide +kernel)), (in_wt 1479 (by decide +kernel) (by decide +kernel))⟩
theorem ml_L_36 : Cond.methodLink R_law 36 yX11_person ∈ wt := in_wt 510 (by decide +kernel) (by decide +kernel)
theorem ml_L_40 : Cond.methodLink R_law 40 yX12_person ∈ wt := in_wt 1477 (by decide +kernel) (by decide +kernel)
set_option maxRecDepth 20000 in
set_option maxHeartbeats 4000000 in
theorem lc_person {Γ : CT} {b L : Nat} {xs : Nat → Int32} {ω1 ω2 : Wd} {Q : State → Prop} {k z : Nat} {σ τ : St} {ad : Nat → Nat → Nat} {N : Nat → Nat} (X : LX Γ b L xs ω1 ω2) {Inv : St → St → (Nat → Nat) → Prop} (S : S_person Inv) {i : Nat} (hi : i + 7 ≤ L) (hL : L < 2 ^ 31) (hI : Inv σ τ N) (hk : k + 1 ≤ 600000) (hz : z + 11 ≤ 7302250) (next : ∀ σ' τ' ad' N', Inv σ' τ' N' → WJ Γ b ω1 ω2 Q (k + 1) (z + 11) 1495 (nI i) [] σ' τ' ad' N') : WJ Γ b ω1 ω2 Q k z 363 (nI i) [] σ τ ad N := by
  obtain ⟨r, σ', τ', n', h1, h2, h3⟩ := S σ τ N (xs (i + 1)) (xs (i + 2)) (xs (i + 3)) (xs (i + 4)) hI
  refine j_aload1 X dL_law_363 ?_
  refine j_arg X 1 (v := 1) (by decide) (by rfl) dL_law_364 dL_law_365 dL_law_366 dL_law_367 dL_law_368 (by omega) hL ?_
  refine j_arg X 2 (v := 2) (by decide) (by rfl) dL_law_369 dL_law_370 dL_law_371 dL_law_372 dL_law_373 (by omega) hL ?_
  refine j_arg X 3 (v := 3) (by decide) (by rfl) dL_law_374 dL_law_375 dL_law_376 dL_law_377 dL_law_378 (by omega) hL ?_
  refine j_arg X 4 (v := 4) (by decide) (by rfl) dL_law_379 dL_law_380 dL_law_381 dL_law_382 dL_law_383 (by omega) hL ?_
  refine j_callA X (st := []) (As := [.int (xs (i + 1)), .int (xs (i + 2)), .int (xs (i + 3)), .int (xs (i + 4))]) dL_law_384 ml_L_36 vw_X11_person rfl (c_p_PE_person Γ.2.1 (setA ω1 (Ac ω1 ω2)) ad N σ (N 2) (xs (i + 1)) (xs (i + 2)) (xs (i + 3)) (xs (i + 4)) rfl ((r, σ'), n') h1) rfl rfl (Nat.le_of_ble_eq_true rfl) ⟨rfl, rfl, by decide, by decide⟩ (by show _ ≤ 600000; omega) (by show _ ≤ 7302250; omega) (fun ad' => ?_)
  refine j_aload2 X dL_law_387 ?_
  refine j_arg X 1 (v := 1) (by decide) (by rfl) dL_law_388 dL_law_389 dL_law_390 dL_law_391 dL_law_392 (by omega) hL ?_
  refine j_arg X 2 (v := 2) (by decide) (by rfl) dL_law_393 dL_law_394 dL_law_395 dL_law_396 dL_law_397 (by omega) hL ?_
  refine j_arg X 3 (v := 3) (by decide) (by rfl) dL_law_398 dL_law_399 dL_law_400 dL_law_401 dL_law_402 (by omega) hL ?_
  refine j_arg X 4 (v := 4) (by decide) (by rfl) dL_law_403 dL_law_404 dL_law_405 dL_law_406 dL_law_407 (by omega) hL ?_
  refine j_callM X (st := [.int r]) (As := [.int (xs (i + 1)), .int (xs (i + 2)), .int (xs (i + 3)), .int (xs (i + 4))]) dL_law_408 ml_L_40 vw_X12_person rfl (c_m_person Γ.2.1 (setA ω2 (Am ω1 ad' (nup N 2 n'))) ad0 N0 τ (xs (i + 1)) (xs (i + 2)) (xs (i + 3)) (xs (i + 4)) (r, τ') h2) rfl rfl (Nat.le_of_ble_eq_true rfl) ⟨rfl, rfl, by decide, by decide⟩ (by show _ ≤ 600000; omega) (by show _ ≤ 7302250; omega) ?_
  refine j_same X 1495 dL_law_411 (by decide) ?_
  exact WJ.wide (k' := k + 1) (z' := z + 11) (by omega) (by omega) (next σ' τ' ad' (nup N 2 n') h3)
theorem vw_X11_protect : VW yX11_protect cX11_protect 5 (some .int) 2 := ⟨⟨(in_wt 80 (by decide +kernel) (by decide +kernel)), (in_wt 586 (by decide +kernel) (by decide +kernel)), by decide +kernel⟩, (in_wt 584 (by decide +kernel) (by decide +kernel)), (in_wt 585 (by decide +kernel) (by decide +kernel))⟩
theorem vw_X12_protect : VW yX12_protect cX12_protect 4 (some .int) 2 := ⟨⟨(in_wt 88 (by decide +kernel) (by decide +kernel)), (in_wt 1488 (by decide +kernel) (by decide +kernel)), by decide +kernel⟩, (in_wt 1486 (by decide +kernel) (by decide +kernel)), (in_wt 1487 (by decide +kernel) (by decide +kernel))⟩
theorem ml_L_41 : Cond.methodLink R_law 41 yX11_protect ∈ wt := in_wt 583 (by decide +kernel) (by decide +kernel)
theorem ml_L_44 : Cond.methodLink R_law 44 yX12_protect ∈ wt := in_wt 1485 (by decide +kernel) (by decide +kernel)
set_option maxRecDepth 20000 in
set_option maxHeartbeats 4000000 in
theorem lc_protect {Γ : CT} {b L : Nat} {xs : Nat → Int32} {ω1 ω2 : Wd} {Q : State → Prop} {k z : Nat} {σ τ : St} {ad : Nat → Nat → Nat} {N : Nat → Nat} (X : LX Γ b L xs ω1 ω2) {Inv : St → St → (Nat → Nat) → Prop} (S : S_protect Inv) {i : Nat} (hi : i + 7 ≤ L) (hL : L < 2 ^ 31) (hI : Inv σ τ N) (hk : k + 1 ≤ 600000) (hz : z + 11 ≤ 7302250) (next : ∀ σ' τ' ad' N', Inv σ' τ' N' → WJ Γ b ω1 ω2 Q (k + 1) (z + 11) 1495 (nI i) [] σ' τ' ad' N') : WJ Γ b ω1 ω2 Q k z 416 (nI i) [] σ τ ad N := by
  obtain ⟨r, σ', τ', h1, h2, h3⟩ := S σ τ N (xs (i + 1)) (xs (i + 2)) hI
  refine j_aload1 X dL_law_416 ?_
  refine j_arg X 1 (v := 1) (by decide) (by rfl) dL_law_417 dL_law_418 dL_law_419 dL_law_420 dL_law_421 (by omega) hL ?_
  refine j_arg X 2 (v := 2) (by decide) (by rfl) dL_law_422 dL_law_423 dL_law_424 dL_law_425 dL_law_426 (by omega) hL ?_
  refine j_callC X (st := []) (As := [.int (xs (i + 1)), .int (xs (i + 2))]) dL_law_427 ml_L_41 vw_X11_protect rfl (c_p_PE_protect Γ.2.1 (setA ω1 (Ac ω1 ω2)) ad N σ (xs (i + 1)) (xs (i + 2)) (r, σ') h1) rfl rfl (Nat.le_of_ble_eq_true rfl) ⟨rfl, rfl, by decide, by decide⟩ (by show _ ≤ 600000; omega) (by show _ ≤ 7302250; omega) ?_
  refine j_aload2 X dL_law_430 ?_
  refine j_arg X 1 (v := 1) (by decide) (by rfl) dL_law_431 dL_law_432 dL_law_433 dL_law_434 dL_law_435 (by omega) hL ?_
  refine j_arg X 2 (v := 2) (by decide) (by rfl) dL_law_436 dL_law_437 dL_law_438 dL_law_439 dL_law_440 (by omega) hL ?_
  refine j_callM X (st := [.int r]) (As := [.int (xs (i + 1)), .int (xs (i + 2))]) dL_law_441 ml_L_44 vw_X12_protect rfl (c_m_protect Γ.2.1 (setA ω2 (Am ω1 ad N)) ad0 N0 τ (xs (i + 1)) (xs (i + 2)) (r, τ') h2) rfl rfl (Nat.le_of_ble_eq_true rfl) ⟨rfl, rfl, by decide, by decide⟩ (by show _ ≤ 600000; omega) (by show _ ≤ 7302250; omega) ?_
  refine j_same X 1495 dL_law_444 (by decide) ?_
  exact WJ.wide (k' := k + 1) (z' := z + 11) (by omega) (by omega) (next σ' τ' ad N h3)
theorem vw_X11_move : VW yX11_move cX11_move 6 (some .int) 2 := ⟨⟨(in_wt 80 (by decide +kernel) (by decide +kernel)), (in_wt 599 (by decide +kernel) (by decide +kernel)), by decide +kernel⟩, (in_wt 597 (by decide +kernel) (by decide +kernel)), (in_wt 598 (by decide +kernel) (by decide +kernel))⟩
theorem vw_X12_move : VW yX12_move cX12_move 4 (some .int) 2 := ⟨⟨(in_wt 88 (by decide +kernel) (by decide +kernel)), (in_wt 1501 (by decide +kernel) (by decide +kernel)), by decide +kernel⟩, (in_wt 1499 (by decide +kernel) (by decide +kernel)), (in_wt 1500 (by decide +kernel) (by decide +kernel))⟩
theorem ml_L_45 : Cond.methodLink R_law 45 yX11_move ∈ wt := in_wt 596 (by decide +kernel) (by decide +kernel)
theorem ml_L_48 : Cond.methodLink R_law 48 yX12_move ∈ wt := in_wt 1498 (by decide +kernel) (by decide +kernel)
set_option maxRecDepth 20000 in
set_option maxHeartbeats 4000000 in
theorem lc_move {Γ : CT} {b L : Nat} {xs : Nat → Int32} {ω1 ω2 : Wd} {Q : State → Prop} {k z : Nat} {σ τ : St} {ad : Nat → Nat → Nat} {N : Nat → Nat} (X : LX Γ b L xs ω1 ω2) {Inv : St → St → (Nat → Nat) → Prop} (S : S_move Inv) {i : Nat} (hi : i + 7 ≤ L) (hL : L < 2 ^ 31) (hI : Inv σ τ N) (hk : k + 1 ≤ 600000) (hz : z + 11 ≤ 7302250) (next : ∀ σ' τ' ad' N', Inv σ' τ' N' → WJ Γ b ω1 ω2 Q (k + 1) (z + 11) 1495 (nI i) [] σ' τ' ad' N') : WJ Γ b ω1 ω2 Q k z 449 (nI i) [] σ τ ad N := by
  obtain ⟨r, σ', τ', h1, h2, h3⟩ := S σ τ N (xs (i + 1)) (xs (i + 2)) hI
  refine j_aload1 X dL_law_449 ?_
  refine j_arg X 1 (v := 1) (by decide) (by rfl) dL_law_450 dL_law_451 dL_law_452 dL_law_453 dL_law_454 (by omega) hL ?_
  refine j_arg X 2 (v := 2) (by decide) (by rfl) dL_law_455 dL_law_456 dL_law_457 dL_law_458 dL_law_459 (by omega) hL ?_
  refine j_callC X (st := []) (As := [.int (xs (i + 1)), .int (xs (i + 2))]) dL_law_460 ml_L_45 vw_X11_move rfl (c_p_PE_move Γ.2.1 (setA ω1 (Ac ω1 ω2)) ad N σ (xs (i + 1)) (xs (i + 2)) (r, σ') h1) rfl rfl (Nat.le_of_ble_eq_true rfl) ⟨rfl, rfl, by decide, by decide⟩ (by show _ ≤ 600000; omega) (by show _ ≤ 7302250; omega) ?_
  refine j_aload2 X dL_law_463 ?_
  refine j_arg X 1 (v := 1) (by decide) (by rfl) dL_law_464 dL_law_465 dL_law_466 dL_law_467 dL_law_468 (by omega) hL ?_
  refine j_arg X 2 (v := 2) (by decide) (by rfl) dL_law_469 dL_law_470 dL_law_471 dL_law_472 dL_law_473 (by omega) hL ?_
  refine j_callM X (st := [.int r]) (As := [.int (xs (i + 1)), .int (xs (i + 2))]) dL_law_474 ml_L_48 vw_X12_move rfl (c_m_move Γ.2.1 (setA ω2 (Am ω1 ad N)) ad0 N0 τ (xs (i + 1)) (xs (i + 2)) (r, τ') h2) rfl rfl (Nat.le_of_ble_eq_true rfl) ⟨rfl, rfl, by decide, by decide⟩ (by show _ ≤ 600000; omega) (by show _ ≤ 7302250; omega) ?_
  refine j_same X 1495 dL_law_477 (by decide) ?_
  exact WJ.wide (k' := k + 1) (z' := z + 11) (by omega) (by omega) (next σ' τ' ad N h3)
theorem vw_X11_leave : VW yX11_leave cX11_leave 3 (some .int) 1 := ⟨⟨(in_wt 80 (by decide +kernel) (by decide +kernel)), (in_wt 611 (by decide +kernel) (by decide +kernel)), by decide +kernel⟩, (in_wt 609 (by decide +kernel) (by decide +kernel)), (in_wt 610 (by decide +kernel) (by decide +kernel))⟩
theorem vw_X12_leave : VW yX12_leave cX12_leave 2 (some .int) 1 := ⟨⟨(in_wt 88 (by decide +kernel) (by decide +kernel)), (in_wt 1509 (by decide +kernel) (by decide +kernel)), by decide +kernel⟩, (in_wt 1507 (by decide +kernel) (by decide +kernel)), (in_wt 1508 (by decide +kernel) (by decide +kernel))⟩
theorem ml_L_49 : Cond.methodLink R_law 49 yX11_leave ∈ wt := in_wt 608 (by decide +kernel) (by decide +kernel)
theorem ml_L_52 : Cond.methodLink R_law 52 yX12_leave ∈ wt := in_wt 1506 (by decide +kernel) (by decide +kernel)
set_option maxRecDepth 20000 in
set_option maxHeartbeats 4000000 in
theorem lc_leave {Γ : CT} {b L : Nat} {xs : Nat → Int32} {ω1 ω2 : Wd} {Q : State → Prop} {k z : Nat} {σ τ : St} {ad : Nat → Nat → Nat} {N : Nat → Nat} (X : LX Γ b L xs ω1 ω2) {Inv : St → St → (Nat → Nat) → Prop} (S : S_leave Inv) {i : Nat} (hi : i + 7 ≤ L) (hL : L < 2 ^ 31) (hI : Inv σ τ N) (hk : k + 1 ≤ 600000) (hz : z + 11 ≤ 7302250) (next : ∀ σ' τ' ad' N', Inv σ' τ' N' → WJ Γ b ω1 ω2 Q (k + 1) (z + 11) 1495 (nI i) [] σ' τ' ad' N') : WJ Γ b ω1 ω2 Q k z 482 (nI i) [] σ τ ad N := by
  obtain ⟨r, σ', τ', h1, h2, h3⟩ := S σ τ N (xs (i + 1)) hI
  refine j_aload1 X dL_law_482 ?_
  refine j_arg X 1 (v := 1) (by decide) (by rfl) dL_law_483 dL_law_484 dL_law_485 dL_law_486 dL_law_487 (by omega) hL ?_
  refine j_callC X (st := []) (As := [.int (xs (i + 1))]) dL_law_488 ml_L_49 vw_X11_leave rfl (c_p_PE_leave Γ.2.1 (setA ω1 (Ac ω1 ω2)) ad N σ (xs (i + 1)) (r, σ') h1) rfl rfl (Nat.le_of_ble_eq_true rfl) ⟨rfl, rfl, by decide, by decide⟩ (by show _ ≤ 600000; omega) (by show _ ≤ 7302250; omega) ?_
  refine j_aload2 X dL_law_491 ?_
  refine j_arg X 1 (v := 1) (by decide) (by rfl) dL_law_492 dL_law_493 dL_law_494 dL_law_495 dL_law_496 (by omega) hL ?_
  refine j_callM X (st := [.int r]) (As := [.int (xs (i + 1))]) dL_law_497 ml_L_52 vw_X12_leave rfl (c_m_leave Γ.2.1 (setA ω2 (Am ω1 ad N)) ad0 N0 τ (xs (i + 1)) (r, τ') h2) rfl rfl (Nat.le_of_ble_eq_true rfl) ⟨rfl, rfl, by decide, by decide⟩ (by show _ ≤ 600000; omega) (by show _ ≤ 7302250; omega) ?_
  refine j_same X 1495 dL_law_500 (by decide) ?_
  exact WJ.wide (k' := k + 1) (z' := z + 11) (by omega) (by omega) (next σ' τ' ad N h3)
theorem vw_X11_weight : VW yX11_weight cX11_weight 4 (some .int) 2 := ⟨⟨(in_wt 80 (by decide +kernel) (by decide +kernel)), (in_wt 615 (by decide +kernel) (by decide +kernel)), by decide +kernel⟩, (in_wt 613 (by decide +kernel) (by decide +kernel)), (in_wt 614 (by decide +kernel) (by decide +kernel))⟩
theorem vw_X12_weight : VW yX12_weight cX12_weight 4 (some .int) 2 := ⟨⟨(in_wt 88 (by decide +kernel) (by decide +kernel)), (in_wt 1513 (by decide +kernel) (by decide +kernel)), by decide +kernel⟩, (in_wt 1511 (by decide +kernel) (by decide +kernel)), (in_wt 1512 (by decide +kernel) (by decide +kernel))⟩
theorem ml_L_53 : Cond.methodLink R_law 53 yX11_weight ∈ wt := in_wt 612 (by decide +kernel) (by decide +kernel)
theorem ml_L_56 : Cond.methodLink R_law 56 yX12_weight ∈ wt := in_wt 1510 (by decide +kernel) (by decide +kernel)
set_option maxRecDepth 20000 in
set_option maxHeartbeats 4000000 in
theorem lc_weight {Γ : CT} {b L : Nat} {xs : Nat → Int32} {ω1 ω2 : Wd} {Q : State → Prop} {k z : Nat} {σ τ : St} {ad : Nat → Nat → Nat} {N : Nat → Nat} (X : LX Γ b L xs ω1 ω2) {Inv : St → St → (Nat → Nat) → Prop} (S : S_weight Inv) {i : Nat} (hi : i + 7 ≤ L) (hL : L < 2 ^ 31) (hI : Inv σ τ N) (hk : k + 1 ≤ 600000) (hz : z + 11 ≤ 7302250) (next : ∀ σ' τ' ad' N', Inv σ' τ' N' → WJ Γ b ω1 ω2 Q (k + 1) (z + 11) 1495 (nI i) [] σ' τ' ad' N') : WJ Γ b ω1 ω2 Q k z 505 (nI i) [] σ τ ad N := by
  obtain ⟨r, σ', τ', h1, h2, h3⟩ := S σ τ N (xs (i + 1)) (xs (i + 2)) hI
  refine j_aload1 X dL_law_505 ?_
  refine j_arg X 1 (v := 1) (by decide) (by rfl) dL_law_506 dL_law_507 dL_law_508 dL_law_509 dL_law_510 (by omega) hL ?_
  refine j_arg X 2 (v := 2) (by decide) (by rfl) dL_law_511 dL_law_512 dL_law_513 dL_law_514 dL_law_515 (by omega) hL ?_
  refine j_callC X (st := []) (As := [.int (xs (i + 1)), .int (xs (i + 2))]) dL_law_516 ml_L_53 vw_X11_weight rfl (c_p_PE_weight Γ.2.1 (setA ω1 (Ac ω1 ω2)) ad N σ (xs (i + 1)) (xs (i + 2)) (r, σ') h1) rfl rfl (Nat.le_of_ble_eq_true rfl) ⟨rfl, rfl, by decide, by decide⟩ (by show _ ≤ 600000; omega) (by show _ ≤ 7302250; omega) ?_
  refine j_aload2 X dL_law_519 ?_
  refine j_arg X 1 (v := 1) (by decide) (by rfl) dL_law_520 dL_law_521 dL_law_522 dL_law_523 dL_law_524 (by omega) hL ?_
  refine j_arg X 2 (v := 2) (by decide) (by rfl) dL_law_525 dL_law_526 dL_law_527 dL_law_528 dL_law_529 (by omega) hL ?_
  refine j_callM X (st := [.int r]) (As := [.int (xs (i + 1)), .int (xs (i + 2))]) dL_law_530 ml_L_56 vw_X12_weight rfl (c_m_weight Γ.2.1 (setA ω2 (Am ω1 ad N)) ad0 N0 τ (xs (i + 1)) (xs (i + 2)) (r, τ') h2) rfl rfl (Nat.le_of_ble_eq_true rfl) ⟨rfl, rfl, by decide, by decide⟩ (by show _ ≤ 600000; omega) (by show _ ≤ 7302250; omega) ?_
  refine j_same X 1495 dL_law_533 (by decide) ?_
  exact WJ.wide (k' := k + 1) (z' := z + 11) (by omega) (by omega) (next σ' τ' ad N h3)
theorem vw_X11_tell : VW yX11_tell cX11_tell 5 (some .int) 3 := ⟨⟨(in_wt 80 (by decide +kernel) (by decide +kernel)), (in_wt 619 (by decide +kernel) (by decide +kernel)), by decide +kernel⟩, (in_wt 617 (by decide +kernel) (by decide +kernel)), (in_wt 618 (by decide +kernel) (by decide +kernel))⟩
theorem vw_X12_tell : VW yX12_tell cX12_tell 4 (some .int) 3 := ⟨⟨(in_wt 88 (by decide +kernel) (by decide +kernel)), (in_wt 1517 (by decide +kernel) (by decide +kernel)), by decide +kernel⟩, (in_wt 1515 (by decide +kernel) (by decide +kernel)), (in_wt 1516 (by decide +kernel) (by decide +kernel))⟩
theorem ml_L_57 : Cond.methodLink R_law 57 yX11_tell ∈ wt := in_wt 616 (by decide +kernel) (by decide +kernel)
theorem ml_L_61 : Cond.methodLink R_law 61 yX12_tell ∈ wt := in_wt 1514 (by decide +kernel) (by decide +kernel)
set_option maxRecDepth 20000 in
set_option maxHeartbeats 4000000 in
theorem lc_tell {Γ : CT} {b L : Nat} {xs : Nat → Int32} {ω1 ω2 : Wd} {Q : State → Prop} {k z : Nat} {σ τ : St} {ad : Nat → Nat → Nat} {N : Nat → Nat} (X : LX Γ b L xs ω1 ω2) {Inv : St → St → (Nat → Nat) → Prop} (S : S_tell Inv) {i : Nat} (hi : i + 7 ≤ L) (hL : L < 2 ^ 31) (hI : Inv σ τ N) (hk : k + 1 ≤ 600000) (hz : z + 11 ≤ 7302250) (next : ∀ σ' τ' ad' N', Inv σ' τ' N' → WJ Γ b ω1 ω2 Q (k + 1) (z + 11) 1495 (nI i) [] σ' τ' ad' N') : WJ Γ b ω1 ω2 Q k z 538 (nI i) [] σ τ ad N := by
  obtain ⟨r, σ', τ', n', h1, h2, h3⟩ := S σ τ N (xs (i + 1)) (xs (i + 2)) (xs (i + 3)) hI
  refine j_aload1 X dL_law_538 ?_
  refine j_arg X 1 (v := 1) (by decide) (by rfl) dL_law_539 dL_law_540 dL_law_541 dL_law_542 dL_law_543 (by omega) hL ?_
  refine j_arg X 2 (v := 2) (by decide) (by rfl) dL_law_544 dL_law_545 dL_law_546 dL_law_547 dL_law_548 (by omega) hL ?_
  refine j_arg X 3 (v := 3) (by decide) (by rfl) dL_law_549 dL_law_550 dL_law_551 dL_law_552 dL_law_553 (by omega) hL ?_
  refine j_callA X (st := []) (As := [.int (xs (i + 1)), .int (xs (i + 2)), .int (xs (i + 3))]) dL_law_554 ml_L_57 vw_X11_tell rfl (c_p_PE_tell Γ.2.1 (setA ω1 (Ac ω1 ω2)) ad N σ (N 3) (xs (i + 1)) (xs (i + 2)) (xs (i + 3)) rfl ((r, σ'), n') h1) rfl rfl (Nat.le_of_ble_eq_true rfl) ⟨rfl, rfl, by decide, by decide⟩ (by show _ ≤ 600000; omega) (by show _ ≤ 7302250; omega) (fun ad' => ?_)
  refine j_aload2 X dL_law_557 ?_
  refine j_arg X 1 (v := 1) (by decide) (by rfl) dL_law_558 dL_law_559 dL_law_560 dL_law_561 dL_law_562 (by omega) hL ?_
  refine j_arg X 2 (v := 2) (by decide) (by rfl) dL_law_563 dL_law_564 dL_law_565 dL_law_566 dL_law_567 (by omega) hL ?_
  refine j_arg X 3 (v := 3) (by decide) (by rfl) dL_law_568 dL_law_569 dL_law_570 dL_law_571 dL_law_572 (by omega) hL ?_
  refine j_callM X (st := [.int r]) (As := [.int (xs (i + 1)), .int (xs (i + 2)), .int (xs (i + 3))]) dL_law_573 ml_L_61 vw_X12_tell rfl (c_m_tell Γ.2.1 (setA ω2 (Am ω1 ad' (nup N 3 n'))) ad0 N0 τ (xs (i + 1)) (xs (i + 2)) (xs (i + 3)) (r, τ') h2) rfl rfl (Nat.le_of_ble_eq_true rfl) ⟨rfl, rfl, by decide, by decide⟩ (by show _ ≤ 600000; omega) (by show _ ≤ 7302250; omega) ?_
  refine j_same X 1495 dL_law_576 (by decide) ?_
  exact WJ.wide (k' := k + 1) (z' := z + 11) (by omega) (by omega) (next σ' τ' ad' (nup N 3 n') h3)
theorem vw_X11_right : VW yX11_right cX11_right 4 (some .int) 2 := ⟨⟨(in_wt 80 (by decide +kernel) (by decide +kernel)), (in_wt 671 (by decide +kernel) (by decide +kernel)), by decide +kernel⟩, (in_wt 669 (by decide +kernel) (by decide +kernel)), (in_wt 670 (by decide +kernel) (by decide +kernel))⟩
theorem vw_X12_right : VW yX12_right cX12_right 5 (some .int) 2 := ⟨⟨(in_wt 88 (by decide +kernel) (by decide +kernel)), (in_wt 1521 (by decide +kernel) (by decide +kernel)), by decide +kernel⟩, (in_wt 1519 (by decide +kernel) (by decide +kernel)), (in_wt 1520 (by decide +kernel) (by decide +kernel))⟩
theorem ml_L_62 : Cond.methodLink R_law 62 yX11_right ∈ wt := in_wt 668 (by decide +kernel) (by decide +kernel)
theorem ml_L_65 : Cond.methodLink R_law 65 yX12_right ∈ wt := in_wt 1518 (by decide +kernel) (by decide +kernel)
set_option maxRecDepth 20000 in
set_option maxHeartbeats 4000000 in
theorem lc_right {Γ : CT} {b L : Nat} {xs : Nat → Int32} {ω1 ω2 : Wd} {Q : State → Prop} {k z : Nat} {σ τ : St} {ad : Nat → Nat → Nat} {N : Nat → Nat} (X : LX Γ b L xs ω1 ω2) {Inv : St → St → (Nat → Nat) → Prop} (S : S_right Inv) {i : Nat} (hi : i + 7 ≤ L) (hL : L < 2 ^ 31) (hI : Inv σ τ N) (hk : k + 1 ≤ 600000) (hz : z + 11 ≤ 7302250) (next : ∀ σ' τ' ad' N', Inv σ' τ' N' → WJ Γ b ω1 ω2 Q (k + 1) (z + 11) 1495 (nI i) [] σ' τ' ad' N') : WJ Γ b ω1 ω2 Q k z 581 (nI i) [] σ τ ad N := by
  obtain ⟨r, σ', τ', n', h1, h2, h3⟩ := S σ τ N (xs (i + 1)) (xs (i + 2)) hI
  refine j_aload1 X dL_law_581 ?_
  refine j_arg X 1 (v := 1) (by decide) (by rfl) dL_law_582 dL_law_583 dL_law_584 dL_law_585 dL_law_586 (by omega) hL ?_
  refine j_arg X 2 (v := 2) (by decide) (by rfl) dL_law_587 dL_law_588 dL_law_589 dL_law_590 dL_law_591 (by omega) hL ?_
  refine j_callA X (st := []) (As := [.int (xs (i + 1)), .int (xs (i + 2))]) dL_law_592 ml_L_62 vw_X11_right rfl (c_p_PE_right Γ.2.1 (setA ω1 (Ac ω1 ω2)) ad N σ (N 4) (xs (i + 1)) (xs (i + 2)) rfl ((r, σ'), n') h1) rfl rfl (Nat.le_of_ble_eq_true rfl) ⟨rfl, rfl, by decide, by decide⟩ (by show _ ≤ 600000; omega) (by show _ ≤ 7302250; omega) (fun ad' => ?_)
  refine j_aload2 X dL_law_595 ?_
  refine j_arg X 1 (v := 1) (by decide) (by rfl) dL_law_596 dL_law_597 dL_law_598 dL_law_599 dL_law_600 (by omega) hL ?_
  refine j_arg X 2 (v := 2) (by decide) (by rfl) dL_law_601 dL_law_602 dL_law_603 dL_law_604 dL_law_605 (by omega) hL ?_
  refine j_callM X (st := [.int r]) (As := [.int (xs (i + 1)), .int (xs (i + 2))]) dL_law_606 ml_L_65 vw_X12_right rfl (c_m_right Γ.2.1 (setA ω2 (Am ω1 ad' (nup N 4 n'))) ad0 N0 τ (xs (i + 1)) (xs (i + 2)) (r, τ') h2) rfl rfl (Nat.le_of_ble_eq_true rfl) ⟨rfl, rfl, by decide, by decide⟩ (by show _ ≤ 600000; omega) (by show _ ≤ 7302250; omega) ?_
  refine j_same X 1495 dL_law_609 (by decide) ?_
  exact WJ.wide (k' := k + 1) (z' := z + 11) (by omega) (by omega) (next σ' τ' ad' (nup N 4 n') h3)
theorem vw_X11_mark : VW yX11_mark cX11_mark 5 (some .int) 3 := ⟨⟨(in_wt 80 (by decide +kernel) (by decide +kernel)), (in_wt 702 (by decide +kernel) (by decide +kernel)), by decide +kernel⟩, (in_wt 700 (by decide +kernel) (by decide +kernel)), (in_wt 701 (by decide +kernel) (by decide +kernel))⟩
theorem vw_X12_mark : VW yX12_mark cX12_mark 4 (some .int) 3 := ⟨⟨(in_wt 88 (by decide +kernel) (by decide +kernel)), (in_wt 1533 (by decide +kernel) (by decide +kernel)), by decide +kernel⟩, (in_wt 1531 (by decide +kernel) (by decide +kernel)), (in_wt 1532 (by decide +kernel) (by decide +kernel))⟩
theorem ml_L_66 : Cond.methodLink R_law 66 yX11_mark ∈ wt := in_wt 699 (by decide +kernel) (by decide +kernel)
theorem ml_L_69 : Cond.methodLink R_law 69 yX12_mark ∈ wt := in_wt 1530 (by decide +kernel) (by decide +kernel)
set_option maxRecDepth 20000 in
set_option maxHeartbeats 4000000 in
theorem lc_mark {Γ : CT} {b L : Nat} {xs : Nat → Int32} {ω1 ω2 : Wd} {Q : State → Prop} {k z : Nat} {σ τ : St} {ad : Nat → Nat → Nat} {N : Nat → Nat} (X : LX Γ b L xs ω1 ω2) {Inv : St → St → (Nat → Nat) → Prop} (S : S_mark Inv) {i : Nat} (hi : i + 7 ≤ L) (hL : L < 2 ^ 31) (hI : Inv σ τ N) (hk : k + 1 ≤ 600000) (hz : z + 11 ≤ 7302250) (next : ∀ σ' τ' ad' N', Inv σ' τ' N' → WJ Γ b ω1 ω2 Q (k + 1) (z + 11) 1495 (nI i) [] σ' τ' ad' N') : WJ Γ b ω1 ω2 Q k z 614 (nI i) [] σ τ ad N := by
  obtain ⟨r, σ', τ', h1, h2, h3⟩ := S σ τ N (xs (i + 1)) (xs (i + 2)) (xs (i + 3)) hI
  refine j_aload1 X dL_law_614 ?_
  refine j_arg X 1 (v := 1) (by decide) (by rfl) dL_law_615 dL_law_616 dL_law_617 dL_law_618 dL_law_619 (by omega) hL ?_
  refine j_arg X 2 (v := 2) (by decide) (by rfl) dL_law_620 dL_law_621 dL_law_622 dL_law_623 dL_law_624 (by omega) hL ?_
  refine j_arg X 3 (v := 3) (by decide) (by rfl) dL_law_625 dL_law_626 dL_law_627 dL_law_628 dL_law_629 (by omega) hL ?_
  refine j_callC X (st := []) (As := [.int (xs (i + 1)), .int (xs (i + 2)), .int (xs (i + 3))]) dL_law_630 ml_L_66 vw_X11_mark rfl (c_p_PE_mark Γ.2.1 (setA ω1 (Ac ω1 ω2)) ad N σ (xs (i + 1)) (xs (i + 2)) (xs (i + 3)) (r, σ') h1) rfl rfl (Nat.le_of_ble_eq_true rfl) ⟨rfl, rfl, by decide, by decide⟩ (by show _ ≤ 600000; omega) (by show _ ≤ 7302250; omega) ?_
  refine j_aload2 X dL_law_633 ?_
  refine j_arg X 1 (v := 1) (by decide) (by rfl) dL_law_634 dL_law_635 dL_law_636 dL_law_637 dL_law_638 (by omega) hL ?_
  refine j_arg X 2 (v := 2) (by decide) (by rfl) dL_law_639 dL_law_640 dL_law_641 dL_law_642 dL_law_643 (by omega) hL ?_
  refine j_arg X 3 (v := 3) (by decide) (by rfl) dL_law_644 dL_law_645 dL_law_646 dL_law_647 dL_law_648 (by omega) hL ?_
  refine j_callM X (st := [.int r]) (As := [.int (xs (i + 1)), .int (xs (i + 2)), .int (xs (i + 3))]) dL_law_649 ml_L_69 vw_X12_mark rfl (c_m_mark Γ.2.1 (setA ω2 (Am ω1 ad N)) ad0 N0 τ (xs (i + 1)) (xs (i + 2)) (xs (i + 3)) (r, τ') h2) rfl rfl (Nat.le_of_ble_eq_true rfl) ⟨rfl, rfl, by decide, by decide⟩ (by show _ ≤ 600000; omega) (by show _ ≤ 7302250; omega) ?_
  refine j_same X 1495 dL_law_652 (by decide) ?_
  exact WJ.wide (k' := k + 1) (z' := z + 11) (by omega) (by omega) (next σ' τ' ad N h3)
theorem vw_X11_pools : VW yX11_pools cX11_pools 2 (some .int) 1 := ⟨⟨(in_wt 80 (by decide +kernel) (by decide +kernel)), (in_wt 747 (by decide +kernel) (by decide +kernel)), by decide +kernel⟩, (in_wt 745 (by decide +kernel) (by decide +kernel)), (in_wt 746 (by decide +kernel) (by decide +kernel))⟩
theorem vw_X12_pools : VW yX12_pools cX12_pools 2 (some .int) 1 := ⟨⟨(in_wt 88 (by decide +kernel) (by decide +kernel)), (in_wt 1560 (by decide +kernel) (by decide +kernel)), by decide +kernel⟩, (in_wt 1558 (by decide +kernel) (by decide +kernel)), (in_wt 1559 (by decide +kernel) (by decide +kernel))⟩
theorem ml_L_70 : Cond.methodLink R_law 70 yX11_pools ∈ wt := in_wt 744 (by decide +kernel) (by decide +kernel)
theorem ml_L_73 : Cond.methodLink R_law 73 yX12_pools ∈ wt := in_wt 1557 (by decide +kernel) (by decide +kernel)
set_option maxRecDepth 20000 in
set_option maxHeartbeats 4000000 in
theorem lc_pools {Γ : CT} {b L : Nat} {xs : Nat → Int32} {ω1 ω2 : Wd} {Q : State → Prop} {k z : Nat} {σ τ : St} {ad : Nat → Nat → Nat} {N : Nat → Nat} (X : LX Γ b L xs ω1 ω2) {Inv : St → St → (Nat → Nat) → Prop} (S : S_pools Inv) {i : Nat} (hi : i + 7 ≤ L) (hL : L < 2 ^ 31) (hI : Inv σ τ N) (hk : k + 1 ≤ 600000) (hz : z + 11 ≤ 7302250) (next : ∀ σ' τ' ad' N', Inv σ' τ' N' → WJ Γ b ω1 ω2 Q (k + 1) (z + 11) 1495 (nI i) [] σ' τ' ad' N') : WJ Γ b ω1 ω2 Q k z 657 (nI i) [] σ τ ad N := by
  obtain ⟨r, σ', τ', h1, h2, h3⟩ := S σ τ N (xs (i + 1)) hI
  refine j_aload1 X dL_law_657 ?_
  refine j_arg X 1 (v := 1) (by decide) (by rfl) dL_law_658 dL_law_659 dL_law_660 dL_law_661 dL_law_662 (by omega) hL ?_
  refine j_callC X (st := []) (As := [.int (xs (i + 1))]) dL_law_663 ml_L_70 vw_X11_pools rfl (c_p_PE_pools Γ.2.1 (setA ω1 (Ac ω1 ω2)) ad N σ (xs (i + 1)) (r, σ') h1) rfl rfl (Nat.le_of_ble_eq_true rfl) ⟨rfl, rfl, by decide, by decide⟩ (by show _ ≤ 600000; omega) (by show _ ≤ 7302250; omega) ?_
  refine j_aload2 X dL_law_666 ?_
  refine j_arg X 1 (v := 1) (by decide) (by rfl) dL_law_667 dL_law_668 dL_law_669 dL_law_670 dL_law_671 (by omega) hL ?_
  refine j_callM X (st := [.int r]) (As := [.int (xs (i + 1))]) dL_law_672 ml_L_73 vw_X12_pools rfl (c_m_pools Γ.2.1 (setA ω2 (Am ω1 ad N)) ad0 N0 τ (xs (i + 1)) (r, τ') h2) rfl rfl (Nat.le_of_ble_eq_true rfl) ⟨rfl, rfl, by decide, by decide⟩ (by show _ ≤ 600000; omega) (by show _ ≤ 7302250; omega) ?_
  refine j_same X 1495 dL_law_675 (by decide) ?_
  exact WJ.wide (k' := k + 1) (z' := z + 11) (by omega) (by omega) (next σ' τ' ad N h3)
theorem vw_X11_poolOf : VW yX11_poolOf cX11_poolOf 5 (some .int) 2 := ⟨⟨(in_wt 80 (by decide +kernel) (by decide +kernel)), (in_wt 788 (by decide +kernel) (by decide +kernel)), by decide +kernel⟩, (in_wt 786 (by decide +kernel) (by decide +kernel)), (in_wt 787 (by decide +kernel) (by decide +kernel))⟩
theorem vw_X12_poolOf : VW yX12_poolOf cX12_poolOf 4 (some .int) 2 := ⟨⟨(in_wt 88 (by decide +kernel) (by decide +kernel)), (in_wt 1576 (by decide +kernel) (by decide +kernel)), by decide +kernel⟩, (in_wt 1574 (by decide +kernel) (by decide +kernel)), (in_wt 1575 (by decide +kernel) (by decide +kernel))⟩
theorem ml_L_74 : Cond.methodLink R_law 74 yX11_poolOf ∈ wt := in_wt 785 (by decide +kernel) (by decide +kernel)
theorem ml_L_77 : Cond.methodLink R_law 77 yX12_poolOf ∈ wt := in_wt 1573 (by decide +kernel) (by decide +kernel)
set_option maxRecDepth 20000 in
set_option maxHeartbeats 4000000 in
theorem lc_poolOf {Γ : CT} {b L : Nat} {xs : Nat → Int32} {ω1 ω2 : Wd} {Q : State → Prop} {k z : Nat} {σ τ : St} {ad : Nat → Nat → Nat} {N : Nat → Nat} (X : LX Γ b L xs ω1 ω2) {Inv : St → St → (Nat → Nat) → Prop} (S : S_poolOf Inv) {i : Nat} (hi : i + 7 ≤ L) (hL : L < 2 ^ 31) (hI : Inv σ τ N) (hk : k + 1 ≤ 600000) (hz : z + 11 ≤ 7302250) (next : ∀ σ' τ' ad' N', Inv σ' τ' N' → WJ Γ b ω1 ω2 Q (k + 1) (z + 11) 1495 (nI i) [] σ' τ' ad' N') : WJ Γ b ω1 ω2 Q k z 680 (nI i) [] σ τ ad N := by
  obtain ⟨r, σ', τ', h1, h2, h3⟩ := S σ τ N (xs (i + 1)) (xs (i + 2)) hI
  refine j_aload1 X dL_law_680 ?_
  refine j_arg X 1 (v := 1) (by decide) (by rfl) dL_law_681 dL_law_682 dL_law_683 dL_law_684 dL_law_685 (by omega) hL ?_
  refine j_arg X 2 (v := 2) (by decide) (by rfl) dL_law_686 dL_law_687 dL_law_688 dL_law_689 dL_law_690 (by omega) hL ?_
  refine j_callC X (st := []) (As := [.int (xs (i + 1)), .int (xs (i + 2))]) dL_law_691 ml_L_74 vw_X11_poolOf rfl (c_p_PE_poolOf Γ.2.1 (setA ω1 (Ac ω1 ω2)) ad N σ (xs (i + 1)) (xs (i + 2)) (r, σ') h1) rfl rfl (Nat.le_of_ble_eq_true rfl) ⟨rfl, rfl, by decide, by decide⟩ (by show _ ≤ 600000; omega) (by show _ ≤ 7302250; omega) ?_
  refine j_aload2 X dL_law_694 ?_
  refine j_arg X 1 (v := 1) (by decide) (by rfl) dL_law_695 dL_law_696 dL_law_697 dL_law_698 dL_law_699 (by omega) hL ?_
  refine j_arg X 2 (v := 2) (by decide) (by rfl) dL_law_700 dL_law_701 dL_law_702 dL_law_703 dL_law_704 (by omega) hL ?_
  refine j_callM X (st := [.int r]) (As := [.int (xs (i + 1)), .int (xs (i + 2))]) dL_law_705 ml_L_77 vw_X12_poolOf rfl (c_m_poolOf Γ.2.1 (setA ω2 (Am ω1 ad N)) ad0 N0 τ (xs (i + 1)) (xs (i + 2)) (r, τ') h2) rfl rfl (Nat.le_of_ble_eq_true rfl) ⟨rfl, rfl, by decide, by decide⟩ (by show _ ≤ 600000; omega) (by show _ ≤ 7302250; omega) ?_
  refine j_same X 1495 dL_law_708 (by decide) ?_
  exact WJ.wide (k' := k + 1) (z' := z + 11) (by omega) (by omega) (next σ' τ' ad N h3)
theorem vw_X11_cut : VW yX11_cut cX11_cut 6 (some .int) 4 := ⟨⟨(in_wt 80 (by decide +kernel) (by decide +kernel)), (in_wt 793 (by decide +kernel) (by decide +kernel)), by decide +kernel⟩, (in_wt 791 (by decide +kernel) (by decide +kernel)), (in_wt 792 (by decide +kernel) (by decide +kernel))⟩
theorem vw_X12_cut : VW yX12_cut cX12_cut 6 (some .int) 4 := ⟨⟨(in_wt 88 (by decide +kernel) (by decide +kernel)), (in_wt 1580 (by decide +kernel) (by decide +kernel)), by decide +kernel⟩, (in_wt 1578 (by decide +kernel) (by decide +kernel)), (in_wt 1579 (by decide +kernel) (by decide +kernel))⟩
theorem ml_L_78 : Cond.methodLink R_law 78 yX11_cut ∈ wt := in_wt 790 (by decide +kernel) (by decide +kernel)
theorem ml_L_81 : Cond.methodLink R_law 81 yX12_cut ∈ wt := in_wt 1577 (by decide +kernel) (by decide +kernel)
set_option maxRecDepth 20000 in
set_option maxHeartbeats 4000000 in
theorem lc_cut {Γ : CT} {b L : Nat} {xs : Nat → Int32} {ω1 ω2 : Wd} {Q : State → Prop} {k z : Nat} {σ τ : St} {ad : Nat → Nat → Nat} {N : Nat → Nat} (X : LX Γ b L xs ω1 ω2) {Inv : St → St → (Nat → Nat) → Prop} (S : S_cut Inv) {i : Nat} (hi : i + 7 ≤ L) (hL : L < 2 ^ 31) (hI : Inv σ τ N) (hk : k + 1 ≤ 600000) (hz : z + 11 ≤ 7302250) (next : ∀ σ' τ' ad' N', Inv σ' τ' N' → WJ Γ b ω1 ω2 Q (k + 1) (z + 11) 1495 (nI i) [] σ' τ' ad' N') : WJ Γ b ω1 ω2 Q k z 713 (nI i) [] σ τ ad N := by
  obtain ⟨r, σ', τ', h1, h2, h3⟩ := S σ τ N (xs (i + 1)) (xs (i + 2)) (xs (i + 3)) (xs (i + 4)) hI
  refine j_aload1 X dL_law_713 ?_
  refine j_arg X 1 (v := 1) (by decide) (by rfl) dL_law_714 dL_law_715 dL_law_716 dL_law_717 dL_law_718 (by omega) hL ?_
  refine j_arg X 2 (v := 2) (by decide) (by rfl) dL_law_719 dL_law_720 dL_law_721 dL_law_722 dL_law_723 (by omega) hL ?_
  refine j_arg X 3 (v := 3) (by decide) (by rfl) dL_law_724 dL_law_725 dL_law_726 dL_law_727 dL_law_728 (by omega) hL ?_
  refine j_arg X 4 (v := 4) (by decide) (by rfl) dL_law_729 dL_law_730 dL_law_731 dL_law_732 dL_law_733 (by omega) hL ?_
  refine j_callC X (st := []) (As := [.int (xs (i + 1)), .int (xs (i + 2)), .int (xs (i + 3)), .int (xs (i + 4))]) dL_law_734 ml_L_78 vw_X11_cut rfl (c_p_PE_cut Γ.2.1 (setA ω1 (Ac ω1 ω2)) ad N σ (xs (i + 1)) (xs (i + 2)) (xs (i + 3)) (xs (i + 4)) (r, σ') h1) rfl rfl (Nat.le_of_ble_eq_true rfl) ⟨rfl, rfl, by decide, by decide⟩ (by show _ ≤ 600000; omega) (by show _ ≤ 7302250; omega) ?_
  refine j_aload2 X dL_law_737 ?_
  refine j_arg X 1 (v := 1) (by decide) (by rfl) dL_law_738 dL_law_739 dL_law_740 dL_law_741 dL_law_742 (by omega) hL ?_
  refine j_arg X 2 (v := 2) (by decide) (by rfl) dL_law_743 dL_law_744 dL_law_745 dL_law_746 dL_law_747 (by omega) hL ?_
  refine j_arg X 3 (v := 3) (by decide) (by rfl) dL_law_748 dL_law_749 dL_law_750 dL_law_751 dL_law_752 (by omega) hL ?_
  refine j_arg X 4 (v := 4) (by decide) (by rfl) dL_law_753 dL_law_754 dL_law_755 dL_law_756 dL_law_757 (by omega) hL ?_
  refine j_callM X (st := [.int r]) (As := [.int (xs (i + 1)), .int (xs (i + 2)), .int (xs (i + 3)), .int (xs (i + 4))]) dL_law_758 ml_L_81 vw_X12_cut rfl (c_m_cut Γ.2.1 (setA ω2 (Am ω1 ad N)) ad0 N0 τ (xs (i + 1)) (xs (i + 2)) (xs (i + 3)) (xs (i + 4)) (r, τ') h2) rfl rfl (Nat.le_of_ble_eq_true rfl) ⟨rfl, rfl, by decide, by decide⟩ (by show _ ≤ 600000; omega) (by show _ ≤ 7302250; omega) ?_
  refine j_same X 1495 dL_law_761 (by decide) ?_
  exact WJ.wide (k' := k + 1) (z' := z + 11) (by omega) (by omega) (next σ' τ' ad N h3)
theorem vw_X11_volunteer : VW yX11_volunteer cX11_volunteer 5 (some .int) 2 := ⟨⟨(in_wt 80 (by decide +kernel) (by decide +kernel)), (in_wt 839 (by decide +kernel) (by decide +kernel)), by decide +kernel⟩, (in_wt 837 (by decide +kernel) (by decide +kernel)), (in_wt 838 (by decide +kernel) (by decide +kernel))⟩
theorem vw_X12_volunteer : VW yX12_volunteer cX12_volunteer 4 (some .int) 2 := ⟨⟨(in_wt 88 (by decide +kernel) (by decide +kernel)), (in_wt 1607 (by decide +kernel) (by decide +kernel)), by decide +kernel⟩, (in_wt 1605 (by decide +kernel) (by decide +kernel)), (in_wt 1606 (by decide +kernel) (by decide +kernel))⟩
theorem ml_L_82 : Cond.methodLink R_law 82 yX11_volunteer ∈ wt := in_wt 836 (by decide +kernel) (by decide +kernel)
theorem ml_L_85 : Cond.methodLink R_law 85 yX12_volunteer ∈ wt := in_wt 1604 (by decide +kernel) (by decide +kernel)
set_option maxRecDepth 20000 in
set_option maxHeartbeats 4000000 in
theorem lc_volunteer {Γ : CT} {b L : Nat} {xs : Nat → Int32} {ω1 ω2 : Wd} {Q : State → Prop} {k z : Nat} {σ τ : St} {ad : Nat → Nat → Nat} {N : Nat → Nat} (X : LX Γ b L xs ω1 ω2) {Inv : St → St → (Nat → Nat) → Prop} (S : S_volunteer Inv) {i : Nat} (hi : i + 7 ≤ L) (hL : L < 2 ^ 31) (hI : Inv σ τ N) (hk : k + 1 ≤ 600000) (hz : z + 11 ≤ 7302250) (next : ∀ σ' τ' ad' N', Inv σ' τ' N' → WJ Γ b ω1 ω2 Q (k + 1) (z + 11) 1495 (nI i) [] σ' τ' ad' N') : WJ Γ b ω1 ω2 Q k z 766 (nI i) [] σ τ ad N := by
  obtain ⟨r, σ', τ', h1, h2, h3⟩ := S σ τ N (xs (i + 1)) (xs (i + 2)) hI
  refine j_aload1 X dL_law_766 ?_
  refine j_arg X 1 (v := 1) (by decide) (by rfl) dL_law_767 dL_law_768 dL_law_769 dL_law_770 dL_law_771 (by omega) hL ?_
  refine j_arg X 2 (v := 2) (by decide) (by rfl) dL_law_772 dL_law_773 dL_law_774 dL_law_775 dL_law_776 (by omega) hL ?_
  refine j_callC X (st := []) (As := [.int (xs (i + 1)), .int (xs (i + 2))]) dL_law_777 ml_L_82 vw_X11_volunteer rfl (c_p_PE_volunteer Γ.2.1 (setA ω1 (Ac ω1 ω2)) ad N σ (xs (i + 1)) (xs (i + 2)) (r, σ') h1) rfl rfl (Nat.le_of_ble_eq_true rfl) ⟨rfl, rfl, by decide, by decide⟩ (by show _ ≤ 600000; omega) (by show _ ≤ 7302250; omega) ?_
  refine j_aload2 X dL_law_780 ?_
  refine j_arg X 1 (v := 1) (by decide) (by rfl) dL_law_781 dL_law_782 dL_law_783 dL_law_784 dL_law_785 (by omega) hL ?_
  refine j_arg X 2 (v := 2) (by decide) (by rfl) dL_law_786 dL_law_787 dL_law_788 dL_law_789 dL_law_790 (by omega) hL ?_
  refine j_callM X (st := [.int r]) (As := [.int (xs (i + 1)), .int (xs (i + 2))]) dL_law_791 ml_L_85 vw_X12_volunteer rfl (c_m_volunteer Γ.2.1 (setA ω2 (Am ω1 ad N)) ad0 N0 τ (xs (i + 1)) (xs (i + 2)) (r, τ') h2) rfl rfl (Nat.le_of_ble_eq_true rfl) ⟨rfl, rfl, by decide, by decide⟩ (by show _ ≤ 600000; omega) (by show _ ≤ 7302250; omega) ?_
  refine j_same X 1495 dL_law_794 (by decide) ?_
  exact WJ.wide (k' := k + 1) (z' := z + 11) (by omega) (by omega) (next σ' τ' ad N h3)
theorem vw_X11_severance : VW yX11_severance cX11_severance 3 (some .int) 1 := ⟨⟨(in_wt 80 (by decide +kernel) (by decide +kernel)), (in_wt 844 (by decide +kernel) (by decide +kernel)), by decide +kernel⟩, (in_wt 842 (by decide +kernel) (by decide +kernel)), (in_wt 843 (by decide +kernel) (by decide +kernel))⟩
theorem vw_X12_severance : VW yX12_severance cX12_severance 2 (some .int) 1 := ⟨⟨(in_wt 88 (by decide +kernel) (by decide +kernel)), (in_wt 1612 (by decide +kernel) (by decide +kernel)), by decide +kernel⟩, (in_wt 1610 (by decide +kernel) (by decide +kernel)), (in_wt 1611 (by decide +kernel) (by decide +kernel))⟩
theorem ml_L_86 : Cond.methodLink R_law 86 yX11_severance ∈ wt := in_wt 841 (by decide +kernel) (by decide +kernel)
theorem ml_L_89 : Cond.methodLink R_law 89 yX12_severance ∈ wt := in_wt 1609 (by decide +kernel) (by decide +kernel)
set_option maxRecDepth 20000 in
set_option maxHeartbeats 4000000 in
theorem lc_severance {Γ : CT} {b L : Nat} {xs : Nat → Int32} {ω1 ω2 : Wd} {Q : State → Prop} {k z : Nat} {σ τ : St} {ad : Nat → Nat → Nat} {N : Nat → Nat} (X : LX Γ b L xs ω1 ω2) {Inv : St → St → (Nat → Nat) → Prop} (S : S_severance Inv) {i : Nat} (hi : i + 7 ≤ L) (hL : L < 2 ^ 31) (hI : Inv σ τ N) (hk : k + 1 ≤ 600000) (hz : z + 11 ≤ 7302250) (next : ∀ σ' τ' ad' N', Inv σ' τ' N' → WJ Γ b ω1 ω2 Q (k + 1) (z + 11) 1495 (nI i) [] σ' τ' ad' N') : WJ Γ b ω1 ω2 Q k z 799 (nI i) [] σ τ ad N := by
  obtain ⟨r, σ', τ', h1, h2, h3⟩ := S σ τ N (xs (i + 1)) hI
  refine j_aload1 X dL_law_799 ?_
  refine j_arg X 1 (v := 1) (by decide) (by rfl) dL_law_800 dL_law_801 dL_law_802 dL_law_803 dL_law_804 (by omega) hL ?_
  refine j_callC X (st := []) (As := [.int (xs (i + 1))]) dL_law_805 ml_L_86 vw_X11_severance rfl (c_p_PE_severance Γ.2.1 (setA ω1 (Ac ω1 ω2)) ad N σ (xs (i + 1)) (r, σ') h1) rfl rfl (Nat.le_of_ble_eq_true rfl) ⟨rfl, rfl, by decide, by decide⟩ (by show _ ≤ 600000; omega) (by show _ ≤ 7302250; omega) ?_
  refine j_aload2 X dL_law_808 ?_
  refine j_arg X 1 (v := 1) (by decide) (by rfl) dL_law_809 dL_law_810 dL_law_811 dL_law_812 dL_law_813 (by omega) hL ?_
  refine j_callM X (st := [.int r]) (As := [.int (xs (i + 1))]) dL_law_814 ml_L_89 vw_X12_severance rfl (c_m_severance Γ.2.1 (setA ω2 (Am ω1 ad N)) ad0 N0 τ (xs (i + 1)) (r, τ') h2) rfl rfl (Nat.le_of_ble_eq_true rfl) ⟨rfl, rfl, by decide, by decide⟩ (by show _ ≤ 600000; omega) (by show _ ≤ 7302250; omega) ?_
  refine j_same X 1495 dL_law_817 (by decide) ?_
  exact WJ.wide (k' := k + 1) (z' := z + 11) (by omega) (by omega) (next σ' τ' ad N h3)
theorem vw_X11_choice : VW yX11_choice cX11_choice 6 (some .int) 4 := ⟨⟨(in_wt 80 (by decide +kernel) (by decide +kernel)), (in_wt 852 (by decide +kernel) (by decide +kernel)), by decide +kernel⟩, (in_wt 850 (by decide +kernel) (by decide +kernel)), (in_wt 851 (by decide +kernel) (by decide +kernel))⟩
theorem vw_X12_choice : VW yX12_choice cX12_choice 6 (some .int) 4 := ⟨⟨(in_wt 88 (by decide +kernel) (by decide +kernel)), (in_wt 1620 (by decide +kernel) (by decide +kernel)), by decide +kernel⟩, (in_wt 1618 (by decide +kernel) (by decide +kernel)), (in_wt 1619 (by decide +kernel) (by decide +kernel))⟩
theorem ml_L_90 : Cond.methodLink R_law 90 yX11_choice ∈ wt := in_wt 849 (by decide +kernel) (by decide +kernel)
theorem ml_L_93 : Cond.methodLink R_law 93 yX12_choice ∈ wt := in_wt 1617 (by decide +kernel) (by decide +kernel)
set_option maxRecDepth 20000 in
set_option maxHeartbeats 4000000 in
theorem lc_choice {Γ : CT} {b L : Nat} {xs : Nat → Int32} {ω1 ω2 : Wd} {Q : State → Prop} {k z : Nat} {σ τ : St} {ad : Nat → Nat → Nat} {N : Nat → Nat} (X : LX Γ b L xs ω1 ω2) {Inv : St → St → (Nat → Nat) → Prop} (S : S_choice Inv) {i : Nat} (hi : i + 7 ≤ L) (hL : L < 2 ^ 31) (hI : Inv σ τ N) (hk : k + 1 ≤ 600000) (hz : z + 11 ≤ 7302250) (next : ∀ σ' τ' ad' N', Inv σ' τ' N' → WJ Γ b ω1 ω2 Q (k + 1) (z + 11) 1495 (nI i) [] σ' τ' ad' N') : WJ Γ b ω1 ω2 Q k z 822 (nI i) [] σ τ ad N := by
  obtain ⟨r, σ', τ', h1, h2, h3⟩ := S σ τ N (xs (i + 1)) (xs (i + 2)) (xs (i + 3)) (xs (i + 4)) hI
  refine j_aload1 X dL_law_822 ?_
  refine j_arg X 1 (v := 1) (by decide) (by rfl) dL_law_823 dL_law_824 dL_law_825 dL_law_826 dL_law_827 (by omega) hL ?_
  refine j_arg X 2 (v := 2) (by decide) (by rfl) dL_law_828 dL_law_829 dL_law_830 dL_law_831 dL_law_832 (by omega) hL ?_
  refine j_arg X 3 (v := 3) (by decide) (by rfl) dL_law_833 dL_law_834 dL_law_835 dL_law_836 dL_law_837 (by omega) hL ?_
  refine j_arg X 4 (v := 4) (by decide) (by rfl) dL_law_838 dL_law_839 dL_law_840 dL_law_841 dL_law_842 (by omega) hL ?_
  refine j_callC X (st := []) (As := [.int (xs (i + 1)), .int (xs (i + 2)), .int (xs (i + 3)), .int (xs (i + 4))]) dL_law_843 ml_L_90 vw_X11_choice rfl (c_p_PE_choice Γ.2.1 (setA ω1 (Ac ω1 ω2)) ad N σ (xs (i + 1)) (xs (i + 2)) (xs (i + 3)) (xs (i + 4)) (r, σ') h1) rfl rfl (Nat.le_of_ble_eq_true rfl) ⟨rfl, rfl, by decide, by decide⟩ (by show _ ≤ 600000; omega) (by show _ ≤ 7302250; omega) ?_
  refine j_aload2 X dL_law_846 ?_
  refine j_arg X 1 (v := 1) (by decide) (by rfl) dL_law_847 dL_law_848 dL_law_849 dL_law_850 dL_law_851 (by omega) hL ?_
  refine j_arg X 2 (v := 2) (by decide) (by rfl) dL_law_852 dL_law_853 dL_law_854 dL_law_855 dL_law_856 (by omega) hL ?_
  refine j_arg X 3 (v := 3) (by decide) (by rfl) dL_law_857 dL_law_858 dL_law_859 dL_law_860 dL_law_861 (by omega) hL ?_
  refine j_arg X 4 (v := 4) (by decide) (by rfl) dL_law_862 dL_law_863 dL_law_864 dL_law_865 dL_law_866 (by omega) hL ?_
  refine j_callM X (st := [.int r]) (As := [.int (xs (i + 1)), .int (xs (i + 2)), .int (xs (i + 3)), .int (xs (i + 4))]) dL_law_867 ml_L_93 vw_X12_choice rfl (c_m_choice Γ.2.1 (setA ω2 (Am ω1 ad N)) ad0 N0 τ (xs (i + 1)) (xs (i + 2)) (xs (i + 3)) (xs (i + 4)) (r, τ') h2) rfl rfl (Nat.le_of_ble_eq_true rfl) ⟨rfl, rfl, by decide, by decide⟩ (by show _ ≤ 600000; omega) (by show _ ≤ 7302250; omega) ?_
  refine j_same X 1495 dL_law_870 (by decide) ?_
  exact WJ.wide (k' := k + 1) (z' := z + 11) (by omega) (by omega) (next σ' τ' ad N h3)
theorem vw_X11_chosen : VW yX11_chosen cX11_chosen 7 (some .int) 4 := ⟨⟨(in_wt 80 (by decide +kernel) (by decide +kernel)), (in_wt 904 (by decide +kernel) (by decide +kernel)), by decide +kernel⟩, (in_wt 902 (by decide +kernel) (by decide +kernel)), (in_wt 903 (by decide +kernel) (by decide +kernel))⟩
theorem vw_X12_chosen : VW yX12_chosen cX12_chosen 8 (some .int) 4 := ⟨⟨(in_wt 88 (by decide +kernel) (by decide +kernel)), (in_wt 1640 (by decide +kernel) (by decide +kernel)), by decide +kernel⟩, (in_wt 1638 (by decide +kernel) (by decide +kernel)), (in_wt 1639 (by decide +kernel) (by decide +kernel))⟩
theorem ml_L_94 : Cond.methodLink R_law 94 yX11_chosen ∈ wt := in_wt 901 (by decide +kernel) (by decide +kernel)
theorem ml_L_97 : Cond.methodLink R_law 97 yX12_chosen ∈ wt := in_wt 1637 (by decide +kernel) (by decide +kernel)
set_option maxRecDepth 20000 in
set_option maxHeartbeats 4000000 in
theorem lc_chosen {Γ : CT} {b L : Nat} {xs : Nat → Int32} {ω1 ω2 : Wd} {Q : State → Prop} {k z : Nat} {σ τ : St} {ad : Nat → Nat → Nat} {N : Nat → Nat} (X : LX Γ b L xs ω1 ω2) {Inv : St → St → (Nat → Nat) → Prop} (S : S_chosen Inv) {i : Nat} (hi : i + 7 ≤ L) (hL : L < 2 ^ 31) (hI : Inv σ τ N) (hk : k + 1 ≤ 600000) (hz : z + 11 ≤ 7302250) (next : ∀ σ' τ' ad' N', Inv σ' τ' N' → WJ Γ b ω1 ω2 Q (k + 1) (z + 11) 1495 (nI i) [] σ' τ' ad' N') : WJ Γ b ω1 ω2 Q k z 875 (nI i) [] σ τ ad N := by
  obtain ⟨r, σ', τ', h1, h2, h3⟩ := S σ τ N (xs (i + 1)) (xs (i + 2)) (xs (i + 3)) (xs (i + 4)) hI
  refine j_aload1 X dL_law_875 ?_
  refine j_arg X 1 (v := 1) (by decide) (by rfl) dL_law_876 dL_law_877 dL_law_878 dL_law_879 dL_law_880 (by omega) hL ?_
  refine j_arg X 2 (v := 2) (by decide) (by rfl) dL_law_881 dL_law_882 dL_law_883 dL_law_884 dL_law_885 (by omega) hL ?_
  refine j_arg X 3 (v := 3) (by decide) (by rfl) dL_law_886 dL_law_887 dL_law_888 dL_law_889 dL_law_890 (by omega) hL ?_
  refine j_arg X 4 (v := 4) (by decide) (by rfl) dL_law_891 dL_law_892 dL_law_893 dL_law_894 dL_law_895 (by omega) hL ?_
  refine j_callC X (st := []) (As := [.int (xs (i + 1)), .int (xs (i + 2)), .int (xs (i + 3)), .int (xs (i + 4))]) dL_law_896 ml_L_94 vw_X11_chosen rfl (c_p_PE_chosen Γ.2.1 (setA ω1 (Ac ω1 ω2)) ad N σ (xs (i + 1)) (xs (i + 2)) (xs (i + 3)) (xs (i + 4)) (r, σ') h1) rfl rfl (Nat.le_of_ble_eq_true rfl) ⟨rfl, rfl, by decide, by decide⟩ (by show _ ≤ 600000; omega) (by show _ ≤ 7302250; omega) ?_
  refine j_aload2 X dL_law_899 ?_
  refine j_arg X 1 (v := 1) (by decide) (by rfl) dL_law_900 dL_law_901 dL_law_902 dL_law_903 dL_law_904 (by omega) hL ?_
  refine j_arg X 2 (v := 2) (by decide) (by rfl) dL_law_905 dL_law_906 dL_law_907 dL_law_908 dL_law_909 (by omega) hL ?_
  refine j_arg X 3 (v := 3) (by decide) (by rfl) dL_law_910 dL_law_911 dL_law_912 dL_law_913 dL_law_914 (by omega) hL ?_
  refine j_arg X 4 (v := 4) (by decide) (by rfl) dL_law_915 dL_law_916 dL_law_917 dL_law_918 dL_law_919 (by omega) hL ?_
  refine j_callM X (st := [.int r]) (As := [.int (xs (i + 1)), .int (xs (i + 2)), .int (xs (i + 3)), .int (xs (i + 4))]) dL_law_920 ml_L_97 vw_X12_chosen rfl (c_m_chosen Γ.2.1 (setA ω2 (Am ω1 ad N)) ad0 N0 τ (xs (i + 1)) (xs (i + 2)) (xs (i + 3)) (xs (i + 4)) (r, τ') h2) rfl rfl (Nat.le_of_ble_eq_true rfl) ⟨rfl, rfl, by decide, by decide⟩ (by show _ ≤ 600000; omega) (by show _ ≤ 7302250; omega) ?_
  refine j_same X 1495 dL_law_923 (by decide) ?_
  exact WJ.wide (k' := k + 1) (z' := z + 11) (by omega) (by omega) (next σ' τ' ad N h3)
theorem vw_X11_chain : VW yX11_chain cX11_chain 3 (some .int) 1 := ⟨⟨(in_wt 80 (by decide +kernel) (by decide +kernel)), (in_wt 917 (by decide +kernel) (by decide +kernel)), by decide +kernel⟩, (in_wt 915 (by decide +kernel) (by decide +kernel)), (in_wt 916 (by decide +kernel) (by decide +kernel))⟩
theorem vw_X12_chain : VW yX12_chain cX12_chain 2 (some .int) 1 := ⟨⟨(in_wt 88 (by decide +kernel) (by decide +kernel)), (in_wt 1644 (by decide +kernel) (by decide +kernel)), by decide +kernel⟩, (in_wt 1642 (by decide +kernel) (by decide +kernel)), (in_wt 1643 (by decide +kernel) (by decide +kernel))⟩
theorem ml_L_98 : Cond.methodLink R_law 98 yX11_chain ∈ wt := in_wt 914 (by decide +kernel) (by decide +kernel)
theorem ml_L_101 : Cond.methodLink R_law 101 yX12_chain ∈ wt := in_wt 1641 (by decide +kernel) (by decide +kernel)
set_option maxRecDepth 20000 in
set_option maxHeartbeats 4000000 in
theorem lc_chain {Γ : CT} {b L : Nat} {xs : Nat → Int32} {ω1 ω2 : Wd} {Q : State → Prop} {k z : Nat} {σ τ : St} {ad : Nat → Nat → Nat} {N : Nat → Nat} (X : LX Γ b L xs ω1 ω2) {Inv : St → St → (Nat → Nat) → Prop} (S : S_chain Inv) {i : Nat} (hi : i + 7 ≤ L) (hL : L < 2 ^ 31) (hI : Inv σ τ N) (hk : k + 1 ≤ 600000) (hz : z + 11 ≤ 7302250) (next : ∀ σ' τ' ad' N', Inv σ' τ' N' → WJ Γ b ω1 ω2 Q (k + 1) (z + 11) 1495 (nI i) [] σ' τ' ad' N') : WJ Γ b ω1 ω2 Q k z 928 (nI i) [] σ τ ad N := by
  obtain ⟨r, σ', τ', h1, h2, h3⟩ := S σ τ N (xs (i + 1)) hI
  refine j_aload1 X dL_law_928 ?_
  refine j_arg X 1 (v := 1) (by decide) (by rfl) dL_law_929 dL_law_930 dL_law_931 dL_law_932 dL_law_933 (by omega) hL ?_
  refine j_callC X (st := []) (As := [.int (xs (i + 1))]) dL_law_934 ml_L_98 vw_X11_chain rfl (c_p_PE_chain Γ.2.1 (setA ω1 (Ac ω1 ω2)) ad N σ (xs (i + 1)) (r, σ') h1) rfl rfl (Nat.le_of_ble_eq_true rfl) ⟨rfl, rfl, by decide, by decide⟩ (by show _ ≤ 600000; omega) (by show _ ≤ 7302250; omega) ?_
  refine j_aload2 X dL_law_937 ?_
  refine j_arg X 1 (v := 1) (by decide) (by rfl) dL_law_938 dL_law_939 dL_law_940 dL_law_941 dL_law_942 (by omega) hL ?_
  refine j_callM X (st := [.int r]) (As := [.int (xs (i + 1))]) dL_law_943 ml_L_101 vw_X12_chain rfl (c_m_chain Γ.2.1 (setA ω2 (Am ω1 ad N)) ad0 N0 τ (xs (i + 1)) (r, τ') h2) rfl rfl (Nat.le_of_ble_eq_true rfl) ⟨rfl, rfl, by decide, by decide⟩ (by show _ ≤ 600000; omega) (by show _ ≤ 7302250; omega) ?_
  refine j_same X 1495 dL_law_946 (by decide) ?_
  exact WJ.wide (k' := k + 1) (z' := z + 11) (by omega) (by omega) (next σ' τ' ad N h3)
theorem vw_X11_chainOf : VW yX11_chainOf cX11_chainOf 5 (some .int) 3 := ⟨⟨(in_wt 80 (by decide +kernel) (by decide +kernel)), (in_wt 952 (by decide +kernel) (by decide +kernel)), by decide +kernel⟩, (in_wt 950 (by decide +kernel) (by decide +kernel)), (in_wt 951 (by decide +kernel) (by decide +kernel))⟩
theorem vw_X12_chainOf : VW yX12_chainOf cX12_chainOf 4 (some .int) 3 := ⟨⟨(in_wt 88 (by decide +kernel) (by decide +kernel)), (in_wt 1660 (by decide +kernel) (by decide +kernel)), by decide +kernel⟩, (in_wt 1658 (by decide +kernel) (by decide +kernel)), (in_wt 1659 (by decide +kernel) (by decide +kernel))⟩
theorem ml_L_102 : Cond.methodLink R_law 102 yX11_chainOf ∈ wt := in_wt 949 (by decide +kernel) (by decide +kernel)
theorem ml_L_105 : Cond.methodLink R_law 105 yX12_chainOf ∈ wt := in_wt 1657 (by decide +kernel) (by decide +kernel)
set_option maxRecDepth 20000 in
set_option maxHeartbeats 4000000 in
theorem lc_chainOf {Γ : CT} {b L : Nat} {xs : Nat → Int32} {ω1 ω2 : Wd} {Q : State → Prop} {k z : Nat} {σ τ : St} {ad : Nat → Nat → Nat} {N : Nat → Nat} (X : LX Γ b L xs ω1 ω2) {Inv : St → St → (Nat → Nat) → Prop} (S : S_chainOf Inv) {i : Nat} (hi : i + 7 ≤ L) (hL : L < 2 ^ 31) (hI : Inv σ τ N) (hk : k + 1 ≤ 600000) (hz : z + 11 ≤ 7302250) (next : ∀ σ' τ' ad' N', Inv σ' τ' N' → WJ Γ b ω1 ω2 Q (k + 1) (z + 11) 1495 (nI i) [] σ' τ' ad' N') : WJ Γ b ω1 ω2 Q k z 951 (nI i) [] σ τ ad N := by
  obtain ⟨r, σ', τ', h1, h2, h3⟩ := S σ τ N (xs (i + 1)) (xs (i + 2)) (xs (i + 3)) hI
  refine j_aload1 X dL_law_951 ?_
  refine j_arg X 1 (v := 1) (by decide) (by rfl) dL_law_952 dL_law_953 dL_law_954 dL_law_955 dL_law_956 (by omega) hL ?_
  refine j_arg X 2 (v := 2) (by decide) (by rfl) dL_law_957 dL_law_958 dL_law_959 dL_law_960 dL_law_961 (by omega) hL ?_
  refine j_arg X 3 (v := 3) (by decide) (by rfl) dL_law_962 dL_law_963 dL_law_964 dL_law_965 dL_law_966 (by omega) hL ?_
  refine j_callC X (st := []) (As := [.int (xs (i + 1)), .int (xs (i + 2)), .int (xs (i + 3))]) dL_law_967 ml_L_102 vw_X11_chainOf rfl (c_p_PE_chainOf Γ.2.1 (setA ω1 (Ac ω1 ω2)) ad N σ (xs (i + 1)) (xs (i + 2)) (xs (i + 3)) (r, σ') h1) rfl rfl (Nat.le_of_ble_eq_true rfl) ⟨rfl, rfl, by decide, by decide⟩ (by show _ ≤ 600000; omega) (by show _ ≤ 7302250; omega) ?_
  refine j_aload2 X dL_law_970 ?_
  refine j_arg X 1 (v := 1) (by decide) (by rfl) dL_law_971 dL_law_972 dL_law_973 dL_law_974 dL_law_975 (by omega) hL ?_
  refine j_arg X 2 (v := 2) (by decide) (by rfl) dL_law_976 dL_law_977 dL_law_978 dL_law_979 dL_law_980 (by omega) hL ?_
  refine j_arg X 3 (v := 3) (by decide) (by rfl) dL_law_981 dL_law_982 dL_law_983 dL_law_984 dL_law_985 (by omega) hL ?_
  refine j_callM X (st := [.int r]) (As := [.int (xs (i + 1)), .int (xs (i + 2)), .int (xs (i + 3))]) dL_law_986 ml_L_105 vw_X12_chainOf rfl (c_m_chainOf Γ.2.1 (setA ω2 (Am ω1 ad N)) ad0 N0 τ (xs (i + 1)) (xs (i + 2)) (xs (i + 3)) (r, τ') h2) rfl rfl (Nat.le_of_ble_eq_true rfl) ⟨rfl, rfl, by decide, by decide⟩ (by show _ ≤ 600000; omega) (by show _ ≤ 7302250; omega) ?_
  refine j_same X 1495 dL_law_989 (by decide) ?_
  exact WJ.wide (k' := k + 1) (z' := z + 11) (by omega) (by omega) (next σ' τ' ad N h3)
theorem vw_X11_leaver : VW yX11_leaver cX11_leaver 3 (some .int) 1 := ⟨⟨(in_wt 80 (by decide +kernel) (by decide +kernel)), (in_wt 964 (by decide +kernel) (by decide +kernel)), by decide +kernel⟩, (in_wt 962 (by decide +kernel) (by decide +kernel)), (in_wt 963 (by decide +kernel) (by decide +kernel))⟩
theorem vw_X12_leaver : VW yX12_leaver cX12_leaver 4 (some .int) 1 := ⟨⟨(in_wt 88 (by decide +kernel) (by decide +kernel)), (in_wt 1664 (by decide +kernel) (by decide +kernel)), by decide +kernel⟩, (in_wt 1662 (by decide +kernel) (by decide +kernel)), (in_wt 1663 (by decide +kernel) (by decide +kernel))⟩
theorem ml_L_106 : Cond.methodLink R_law 106 yX11_leaver ∈ wt := in_wt 961 (by decide +kernel) (by decide +kernel)
theorem ml_L_109 : Cond.methodLink R_law 109 yX12_leaver ∈ wt := in_wt 1661 (by decide +kernel) (by decide +kernel)
set_option maxRecDepth 20000 in
set_option maxHeartbeats 4000000 in
theorem lc_leaver {Γ : CT} {b L : Nat} {xs : Nat → Int32} {ω1 ω2 : Wd} {Q : State → Prop} {k z : Nat} {σ τ : St} {ad : Nat → Nat → Nat} {N : Nat → Nat} (X : LX Γ b L xs ω1 ω2) {Inv : St → St → (Nat → Nat) → Prop} (S : S_leaver Inv) {i : Nat} (hi : i + 7 ≤ L) (hL : L < 2 ^ 31) (hI : Inv σ τ N) (hk : k + 1 ≤ 600000) (hz : z + 11 ≤ 7302250) (next : ∀ σ' τ' ad' N', Inv σ' τ' N' → WJ Γ b ω1 ω2 Q (k + 1) (z + 11) 1495 (nI i) [] σ' τ' ad' N') : WJ Γ b ω1 ω2 Q k z 994 (nI i) [] σ τ ad N := by
  obtain ⟨r, σ', τ', h1, h2, h3⟩ := S σ τ N (xs (i + 1)) hI
  refine j_aload1 X dL_law_994 ?_
  refine j_arg X 1 (v := 1) (by decide) (by rfl) dL_law_995 dL_law_996 dL_law_997 dL_law_998 dL_law_999 (by omega) hL ?_
  refine j_callC X (st := []) (As := [.int (xs (i + 1))]) dL_law_1000 ml_L_106 vw_X11_leaver rfl (c_p_PE_leaver Γ.2.1 (setA ω1 (Ac ω1 ω2)) ad N σ (xs (i + 1)) (r, σ') h1) rfl rfl (Nat.le_of_ble_eq_true rfl) ⟨rfl, rfl, by decide, by decide⟩ (by show _ ≤ 600000; omega) (by show _ ≤ 7302250; omega) ?_
  refine j_aload2 X dL_law_1003 ?_
  refine j_arg X 1 (v := 1) (by decide) (by rfl) dL_law_1004 dL_law_1005 dL_law_1006 dL_law_1007 dL_law_1008 (by omega) hL ?_
  refine j_callM X (st := [.int r]) (As := [.int (xs (i + 1))]) dL_law_1009 ml_L_109 vw_X12_leaver rfl (c_m_leaver Γ.2.1 (setA ω2 (Am ω1 ad N)) ad0 N0 τ (xs (i + 1)) (r, τ') h2) rfl rfl (Nat.le_of_ble_eq_true rfl) ⟨rfl, rfl, by decide, by decide⟩ (by show _ ≤ 600000; omega) (by show _ ≤ 7302250; omega) ?_
  refine j_same X 1495 dL_law_1012 (by decide) ?_
  exact WJ.wide (k' := k + 1) (z' := z + 11) (by omega) (by omega) (next σ' τ' ad N h3)
theorem vw_X11_clear : VW yX11_clear cX11_clear 2 (some .int) 0 := ⟨⟨(in_wt 80 (by decide +kernel) (by decide +kernel)), (in_wt 980 (by decide +kernel) (by decide +kernel)), by decide +kernel⟩, (in_wt 978 (by decide +kernel) (by decide +kernel)), (in_wt 979 (by decide +kernel) (by decide +kernel))⟩
theorem vw_X12_clear : VW yX12_clear cX12_clear 2 (some .int) 0 := ⟨⟨(in_wt 88 (by decide +kernel) (by decide +kernel)), (in_wt 1668 (by decide +kernel) (by decide +kernel)), by decide +kernel⟩, (in_wt 1666 (by decide +kernel) (by decide +kernel)), (in_wt 1667 (by decide +kernel) (by decide +kernel))⟩
theorem ml_L_110 : Cond.methodLink R_law 110 yX11_clear ∈ wt := in_wt 977 (by decide +kernel) (by decide +kernel)
theorem ml_L_114 : Cond.methodLink R_law 114 yX12_clear ∈ wt := in_wt 1665 (by decide +kernel) (by decide +kernel)
set_option maxRecDepth 20000 in
set_option maxHeartbeats 4000000 in
theorem lc_clear {Γ : CT} {b L : Nat} {xs : Nat → Int32} {ω1 ω2 : Wd} {Q : State → Prop} {k z : Nat} {σ τ : St} {ad : Nat → Nat → Nat} {N : Nat → Nat} (X : LX Γ b L xs ω1 ω2) {Inv : St → St → (Nat → Nat) → Prop} (S : S_clear Inv) {i : Nat} (hi : i + 7 ≤ L) (hL : L < 2 ^ 31) (hI : Inv σ τ N) (hk : k + 1 ≤ 600000) (hz : z + 11 ≤ 7302250) (next : ∀ σ' τ' ad' N', Inv σ' τ' N' → WJ Γ b ω1 ω2 Q (k + 1) (z + 11) 1495 (nI i) [] σ' τ' ad' N') : WJ Γ b ω1 ω2 Q k z 1017 (nI i) [] σ τ ad N := by
  obtain ⟨r, σ', τ', h1, h2, h3⟩ := S σ τ N  hI
  refine j_aload1 X dL_law_1017 ?_
  refine j_callC X (st := []) (As := []) dL_law_1018 ml_L_110 vw_X11_clear rfl (c_p_PE_clear Γ.2.1 (setA ω1 (Ac ω1 ω2)) ad N σ  (r, σ') h1) rfl rfl (Nat.le_of_ble_eq_true rfl) ⟨rfl, rfl, by decide, by decide⟩ (by show _ ≤ 600000; omega) (by show _ ≤ 7302250; omega) ?_
  refine j_aload2 X dL_law_1021 ?_
  refine j_callM X (st := [.int r]) (As := []) dL_law_1022 ml_L_114 vw_X12_clear rfl (c_m_clear Γ.2.1 (setA ω2 (Am ω1 ad N)) ad0 N0 τ  (r, τ') h2) rfl rfl (Nat.le_of_ble_eq_true rfl) ⟨rfl, rfl, by decide, by decide⟩ (by show _ ≤ 600000; omega) (by show _ ≤ 7302250; omega) ?_
  refine j_same X 1495 dL_law_1025 (by decide) ?_
  exact WJ.wide (k' := k + 1) (z' := z + 11) (by omega) (by omega) (next σ' τ' ad N h3)
theorem vw_X11_fit : VW yX11_fit cX11_fit 5 (some .int) 2 := ⟨⟨(in_wt 80 (by decide +kernel) (by decide +kernel)), (in_wt 984 (by decide +kernel) (by decide +kernel)), by decide +kernel⟩, (in_wt 982 (by decide +kernel) (by decide +kernel)), (in_wt 983 (by decide +kernel) (by decide +kernel))⟩
theorem vw_X12_fit : VW yX12_fit cX12_fit 3 (some .int) 2 := ⟨⟨(in_wt 88 (by decide +kernel) (by decide +kernel)), (in_wt 1672 (by decide +kernel) (by decide +kernel)), by decide +kernel⟩, (in_wt 1670 (by decide +kernel) (by decide +kernel)), (in_wt 1671 (by decide +kernel) (by decide +kernel))⟩
theorem ml_L_115 : Cond.methodLink R_law 115 yX11_fit ∈ wt := in_wt 981 (by decide +kernel) (by decide +kernel)
theorem ml_L_118 : Cond.methodLink R_law 118 yX12_fit ∈ wt := in_wt 1669 (by decide +kernel) (by decide +kernel)
set_option maxRecDepth 20000 in
set_option maxHeartbeats 4000000 in
theorem lc_fit {Γ : CT} {b L : Nat} {xs : Nat → Int32} {ω1 ω2 : Wd} {Q : State → Prop} {k z : Nat} {σ τ : St} {ad : Nat → Nat → Nat} {N : Nat → Nat} (X : LX Γ b L xs ω1 ω2) {Inv : St → St → (Nat → Nat) → Prop} (S : S_fit Inv) {i : Nat} (hi : i + 7 ≤ L) (hL : L < 2 ^ 31) (hI : Inv σ τ N) (hk : k + 1 ≤ 600000) (hz : z + 11 ≤ 7302250) (next : ∀ σ' τ' ad' N', Inv σ' τ' N' → WJ Γ b ω1 ω2 Q (k + 1) (z + 11) 1495 (nI i) [] σ' τ' ad' N') : WJ Γ b ω1 ω2 Q k z 1030 (nI i) [] σ τ ad N := by
  obtain ⟨r, σ', τ', h1, h2, h3⟩ := S σ τ N (xs (i + 1)) (xs (i + 2)) hI
  refine j_aload1 X dL_law_1030 ?_
  refine j_arg X 1 (v := 1) (by decide) (by rfl) dL_law_1031 dL_law_1032 dL_law_1033 dL_law_1034 dL_law_1035 (by omega) hL ?_
  refine j_arg X 2 (v := 2) (by decide) (by rfl) dL_law_1036 dL_law_1037 dL_law_1038 dL_law_1039 dL_law_1040 (by omega) hL ?_
  refine j_callC X (st := []) (As := [.int (xs (i + 1)), .int (xs (i + 2))]) dL_law_1041 ml_L_115 vw_X11_fit rfl (c_p_PE_fit Γ.2.1 (setA ω1 (Ac ω1 ω2)) ad N σ (xs (i + 1)) (xs (i + 2)) (r, σ') h1) rfl rfl (Nat.le_of_ble_eq_true rfl) ⟨rfl, rfl, by decide, by decide⟩ (by show _ ≤ 600000; omega) (by show _ ≤ 7302250; omega) ?_
  refine j_aload2 X dL_law_1044 ?_
  refine j_arg X 1 (v := 1) (by decide) (by rfl) dL_law_1045 dL_law_1046 dL_law_1047 dL_law_1048 dL_law_1049 (by omega) hL ?_
  refine j_arg X 2 (v := 2) (by decide) (by rfl) dL_law_1050 dL_law_1051 dL_law_1052 dL_law_1053 dL_law_1054 (by omega) hL ?_
  refine j_callM X (st := [.int r]) (As := [.int (xs (i + 1)), .int (xs (i + 2))]) dL_law_1055 ml_L_118 vw_X12_fit rfl (c_m_fit Γ.2.1 (setA ω2 (Am ω1 ad N)) ad0 N0 τ (xs (i + 1)) (xs (i + 2)) (r, τ') h2) rfl rfl (Nat.le_of_ble_eq_true rfl) ⟨rfl, rfl, by decide, by decide⟩ (by show _ ≤ 600000; omega) (by show _ ≤ 7302250; omega) ?_
  refine j_same X 1495 dL_law_1058 (by decide) ?_
  exact WJ.wide (k' := k + 1) (z' := z + 11) (by omega) (by omega) (next σ' τ' ad N h3)
theorem vw_X11_offers : VW yX11_offers cX11_offers 2 (some .int) 1 := ⟨⟨(in_wt 80 (by decide +kernel) (by decide +kernel)), (in_wt 992 (by decide +kernel) (by decide +kernel)), by decide +kernel⟩, (in_wt 990 (by decide +kernel) (by decide +kernel)), (in_wt 991 (by decide +kernel) (by decide +kernel))⟩
theorem vw_X12_offers : VW yX12_offers cX12_offers 3 (some .int) 1 := ⟨⟨(in_wt 88 (by decide +kernel) (by decide +kernel)), (in_wt 1683 (by decide +kernel) (by decide +kernel)), by decide +kernel⟩, (in_wt 1681 (by decide +kernel) (by decide +kernel)), (in_wt 1682 (by decide +kernel) (by decide +kernel))⟩
theorem ml_L_119 : Cond.methodLink R_law 119 yX11_offers ∈ wt := in_wt 989 (by decide +kernel) (by decide +kernel)
theorem ml_L_122 : Cond.methodLink R_law 122 yX12_offers ∈ wt := in_wt 1680 (by decide +kernel) (by decide +kernel)
set_option maxRecDepth 20000 in
set_option maxHeartbeats 4000000 in
theorem lc_offers {Γ : CT} {b L : Nat} {xs : Nat → Int32} {ω1 ω2 : Wd} {Q : State → Prop} {k z : Nat} {σ τ : St} {ad : Nat → Nat → Nat} {N : Nat → Nat} (X : LX Γ b L xs ω1 ω2) {Inv : St → St → (Nat → Nat) → Prop} (S : S_offers Inv) {i : Nat} (hi : i + 7 ≤ L) (hL : L < 2 ^ 31) (hI : Inv σ τ N) (hk : k + 1 ≤ 600000) (hz : z + 11 ≤ 7302250) (next : ∀ σ' τ' ad' N', Inv σ' τ' N' → WJ Γ b ω1 ω2 Q (k + 1) (z + 11) 1495 (nI i) [] σ' τ' ad' N') : WJ Γ b ω1 ω2 Q k z 1063 (nI i) [] σ τ ad N := by
  obtain ⟨r, σ', τ', h1, h2, h3⟩ := S σ τ N (xs (i + 1)) hI
  refine j_aload1 X dL_law_1063 ?_
  refine j_arg X 1 (v := 1) (by decide) (by rfl) dL_law_1064 dL_law_1065 dL_law_1066 dL_law_1067 dL_law_1068 (by omega) hL ?_
  refine j_callC X (st := []) (As := [.int (xs (i + 1))]) dL_law_1069 ml_L_119 vw_X11_offers rfl (c_p_PE_offers Γ.2.1 (setA ω1 (Ac ω1 ω2)) ad N σ (xs (i + 1)) (r, σ') h1) rfl rfl (Nat.le_of_ble_eq_true rfl) ⟨rfl, rfl, by decide, by decide⟩ (by show _ ≤ 600000; omega) (by show _ ≤ 7302250; omega) ?_
  refine j_aload2 X dL_law_1072 ?_
  refine j_arg X 1 (v := 1) (by decide) (by rfl) dL_law_1073 dL_law_1074 dL_law_1075 dL_law_1076 dL_law_1077 (by omega) hL ?_
  refine j_callM X (st := [.int r]) (As := [.int (xs (i + 1))]) dL_law_1078 ml_L_122 vw_X12_offers rfl (c_m_offers Γ.2.1 (setA ω2 (Am ω1 ad N)) ad0 N0 τ (xs (i + 1)) (r, τ') h2) rfl rfl (Nat.le_of_ble_eq_true rfl) ⟨rfl, rfl, by decide, by decide⟩ (by show _ ≤ 600000; omega) (by show _ ≤ 7302250; omega) ?_
  refine j_same X 1495 dL_law_1081 (by decide) ?_
  exact WJ.wide (k' := k + 1) (z' := z + 11) (by omega) (by omega) (next σ' τ' ad N h3)
theorem vw_X11_offered : VW yX11_offered cX11_offered 2 (some .int) 1 := ⟨⟨(in_wt 80 (by decide +kernel) (by decide +kernel)), (in_wt 1053 (by decide +kernel) (by decide +kernel)), by decide +kernel⟩, (in_wt 1051 (by decide +kernel) (by decide +kernel)), (in_wt 1052 (by decide +kernel) (by decide +kernel))⟩
theorem vw_X12_offered : VW yX12_offered cX12_offered 2 (some .int) 1 := ⟨⟨(in_wt 88 (by decide +kernel) (by decide +kernel)), (in_wt 1696 (by decide +kernel) (by decide +kernel)), by decide +kernel⟩, (in_wt 1694 (by decide +kernel) (by decide +kernel)), (in_wt 1695 (by decide +kernel) (by decide +kernel))⟩
theorem ml_L_123 : Cond.methodLink R_law 123 yX11_offered ∈ wt := in_wt 1050 (by decide +kernel) (by decide +kernel)
theorem ml_L_126 : Cond.methodLink R_law 126 yX12_offered ∈ wt := in_wt 1693 (by decide +kernel) (by decide +kernel)
set_option maxRecDepth 20000 in
set_option maxHeartbeats 4000000 in
theorem lc_offered {Γ : CT} {b L : Nat} {xs : Nat → Int32} {ω1 ω2 : Wd} {Q : State → Prop} {k z : Nat} {σ τ : St} {ad : Nat → Nat → Nat} {N : Nat → Nat} (X : LX Γ b L xs ω1 ω2) {Inv : St → St → (Nat → Nat) → Prop} (S : S_offered Inv) {i : Nat} (hi : i + 7 ≤ L) (hL : L < 2 ^ 31) (hI : Inv σ τ N) (hk : k + 1 ≤ 600000) (hz : z + 11 ≤ 7302250) (next : ∀ σ' τ' ad' N', Inv σ' τ' N' → WJ Γ b ω1 ω2 Q (k + 1) (z + 11) 1495 (nI i) [] σ' τ' ad' N') : WJ Γ b ω1 ω2 Q k z 1086 (nI i) [] σ τ ad N := by
  obtain ⟨r, σ', τ', h1, h2, h3⟩ := S σ τ N (xs (i + 1)) hI
  refine j_aload1 X dL_law_1086 ?_
  refine j_arg X 1 (v := 1) (by decide) (by rfl) dL_law_1087 dL_law_1088 dL_law_1089 dL_law_1090 dL_law_1091 (by omega) hL ?_
  refine j_callC X (st := []) (As := [.int (xs (i + 1))]) dL_law_1092 ml_L_123 vw_X11_offered rfl (c_p_PE_offered Γ.2.1 (setA ω1 (Ac ω1 ω2)) ad N σ (xs (i + 1)) (r, σ') h1) rfl rfl (Nat.le_of_ble_eq_true rfl) ⟨rfl, rfl, by decide, by decide⟩ (by show _ ≤ 600000; omega) (by show _ ≤ 7302250; omega) ?_
  refine j_aload2 X dL_law_1095 ?_
  refine j_arg X 1 (v := 1) (by decide) (by rfl) dL_law_1096 dL_law_1097 dL_law_1098 dL_law_1099 dL_law_1100 (by omega) hL ?_
  refine j_callM X (st := [.int r]) (As := [.int (xs (i + 1))]) dL_law_1101 ml_L_126 vw_X12_offered rfl (c_m_offered Γ.2.1 (setA ω2 (Am ω1 ad N)) ad0 N0 τ (xs (i + 1)) (r, τ') h2) rfl rfl (Nat.le_of_ble_eq_true rfl) ⟨rfl, rfl, by decide, by decide⟩ (by show _ ≤ 600000; omega) (by show _ ≤ 7302250; omega) ?_
  refine j_same X 1495 dL_law_1104 (by decide) ?_
  exact WJ.wide (k' := k + 1) (z' := z + 11) (by omega) (by omega) (next σ' τ' ad N h3)
theorem vw_X11_ends : VW yX11_ends cX11_ends 4 (some .int) 3 := ⟨⟨(in_wt 80 (by decide +kernel) (by decide +kernel)), (in_wt 1061 (by decide +kernel) (by decide +kernel)), by decide +kernel⟩, (in_wt 1059 (by decide +kernel) (by decide +kernel)), (in_wt 1060 (by decide +kernel) (by decide +kernel))⟩
theorem vw_X12_ends : VW yX12_ends cX12_ends 4 (some .int) 3 := ⟨⟨(in_wt 88 (by decide +kernel) (by decide +kernel)), (in_wt 1700 (by decide +kernel) (by decide +kernel)), by decide +kernel⟩, (in_wt 1698 (by decide +kernel) (by decide +kernel)), (in_wt 1699 (by decide +kernel) (by decide +kernel))⟩
theorem ml_L_127 : Cond.methodLink R_law 127 yX11_ends ∈ wt := in_wt 1058 (by decide +kernel) (by decide +kernel)
theorem ml_L_130 : Cond.methodLink R_law 130 yX12_ends ∈ wt := in_wt 1697 (by decide +kernel) (by decide +kernel)
set_option maxRecDepth 20000 in
set_option maxHeartbeats 4000000 in
theorem lc_ends {Γ : CT} {b L : Nat} {xs : Nat → Int32} {ω1 ω2 : Wd} {Q : State → Prop} {k z : Nat} {σ τ : St} {ad : Nat → Nat → Nat} {N : Nat → Nat} (X : LX Γ b L xs ω1 ω2) {Inv : St → St → (Nat → Nat) → Prop} (S : S_ends Inv) {i : Nat} (hi : i + 7 ≤ L) (hL : L < 2 ^ 31) (hI : Inv σ τ N) (hk : k + 1 ≤ 600000) (hz : z + 11 ≤ 7302250) (next : ∀ σ' τ' ad' N', Inv σ' τ' N' → WJ Γ b ω1 ω2 Q (k + 1) (z + 11) 1495 (nI i) [] σ' τ' ad' N') : WJ Γ b ω1 ω2 Q k z 1109 (nI i) [] σ τ ad N := by
  obtain ⟨r, σ', τ', h1, h2, h3⟩ := S σ τ N (xs (i + 1)) (xs (i + 2)) (xs (i + 3)) hI
  refine j_aload1 X dL_law_1109 ?_
  refine j_arg X 1 (v := 1) (by decide) (by rfl) dL_law_1110 dL_law_1111 dL_law_1112 dL_law_1113 dL_law_1114 (by omega) hL ?_
  refine j_arg X 2 (v := 2) (by decide) (by rfl) dL_law_1115 dL_law_1116 dL_law_1117 dL_law_1118 dL_law_1119 (by omega) hL ?_
  refine j_arg X 3 (v := 3) (by decide) (by rfl) dL_law_1120 dL_law_1121 dL_law_1122 dL_law_1123 dL_law_1124 (by omega) hL ?_
  refine j_callC X (st := []) (As := [.int (xs (i + 1)), .int (xs (i + 2)), .int (xs (i + 3))]) dL_law_1125 ml_L_127 vw_X11_ends rfl (c_p_PE_ends Γ.2.1 (setA ω1 (Ac ω1 ω2)) ad N σ (xs (i + 1)) (xs (i + 2)) (xs (i + 3)) (r, σ') h1) rfl rfl (Nat.le_of_ble_eq_true rfl) ⟨rfl, rfl, by decide, by decide⟩ (by show _ ≤ 600000; omega) (by show _ ≤ 7302250; omega) ?_
  refine j_aload2 X dL_law_1128 ?_
  refine j_arg X 1 (v := 1) (by decide) (by rfl) dL_law_1129 dL_law_1130 dL_law_1131 dL_law_1132 dL_law_1133 (by omega) hL ?_
  refine j_arg X 2 (v := 2) (by decide) (by rfl) dL_law_1134 dL_law_1135 dL_law_1136 dL_law_1137 dL_law_1138 (by omega) hL ?_
  refine j_arg X 3 (v := 3) (by decide) (by rfl) dL_law_1139 dL_law_1140 dL_law_1141 dL_law_1142 dL_law_1143 (by omega) hL ?_
  refine j_callM X (st := [.int r]) (As := [.int (xs (i + 1)), .int (xs (i + 2)), .int (xs (i + 3))]) dL_law_1144 ml_L_130 vw_X12_ends rfl (c_m_ends Γ.2.1 (setA ω2 (Am ω1 ad N)) ad0 N0 τ (xs (i + 1)) (xs (i + 2)) (xs (i + 3)) (r, τ') h2) rfl rfl (Nat.le_of_ble_eq_true rfl) ⟨rfl, rfl, by decide, by decide⟩ (by show _ ≤ 600000; omega) (by show _ ≤ 7302250; omega) ?_
  refine j_same X 1495 dL_law_1147 (by decide) ?_
  exact WJ.wide (k' := k + 1) (z' := z + 11) (by omega) (by omega) (next σ' τ' ad N h3)
theorem vw_X11_notice : VW yX11_notice cX11_notice 3 (some .int) 2 := ⟨⟨(in_wt 80 (by decide +kernel) (by decide +kernel)), (in_wt 1072 (by decide +kernel) (by decide +kernel)), by decide +kernel⟩, (in_wt 1070 (by decide +kernel) (by decide +kernel)), (in_wt 1071 (by decide +kernel) (by decide +kernel))⟩
theorem vw_X12_notice : VW yX12_notice cX12_notice 3 (some .int) 2 := ⟨⟨(in_wt 88 (by decide +kernel) (by decide +kernel)), (in_wt 1704 (by decide +kernel) (by decide +kernel)), by decide +kernel⟩, (in_wt 1702 (by decide +kernel) (by decide +kernel)), (in_wt 1703 (by decide +kernel) (by decide +kernel))⟩
theorem ml_L_131 : Cond.methodLink R_law 131 yX11_notice ∈ wt := in_wt 1069 (by decide +kernel) (by decide +kernel)
theorem ml_L_134 : Cond.methodLink R_law 134 yX12_notice ∈ wt := in_wt 1701 (by decide +kernel) (by decide +kernel)
set_option maxRecDepth 20000 in
set_option maxHeartbeats 4000000 in
theorem lc_notice {Γ : CT} {b L : Nat} {xs : Nat → Int32} {ω1 ω2 : Wd} {Q : State → Prop} {k z : Nat} {σ τ : St} {ad : Nat → Nat → Nat} {N : Nat → Nat} (X : LX Γ b L xs ω1 ω2) {Inv : St → St → (Nat → Nat) → Prop} (S : S_notice Inv) {i : Nat} (hi : i + 7 ≤ L) (hL : L < 2 ^ 31) (hI : Inv σ τ N) (hk : k + 1 ≤ 600000) (hz : z + 11 ≤ 7302250) (next : ∀ σ' τ' ad' N', Inv σ' τ' N' → WJ Γ b ω1 ω2 Q (k + 1) (z + 11) 1495 (nI i) [] σ' τ' ad' N') : WJ Γ b ω1 ω2 Q k z 1152 (nI i) [] σ τ ad N := by
  obtain ⟨r, σ', τ', h1, h2, h3⟩ := S σ τ N (xs (i + 1)) (xs (i + 2)) hI
  refine j_aload1 X dL_law_1152 ?_
  refine j_arg X 1 (v := 1) (by decide) (by rfl) dL_law_1153 dL_law_1154 dL_law_1155 dL_law_1156 dL_law_1157 (by omega) hL ?_
  refine j_arg X 2 (v := 2) (by decide) (by rfl) dL_law_1158 dL_law_1159 dL_law_1160 dL_law_1161 dL_law_1162 (by omega) hL ?_
  refine j_callC X (st := []) (As := [.int (xs (i + 1)), .int (xs (i + 2))]) dL_law_1163 ml_L_131 vw_X11_notice rfl (c_p_PE_notice Γ.2.1 (setA ω1 (Ac ω1 ω2)) ad N σ (xs (i + 1)) (xs (i + 2)) (r, σ') h1) rfl rfl (Nat.le_of_ble_eq_true rfl) ⟨rfl, rfl, by decide, by decide⟩ (by show _ ≤ 600000; omega) (by show _ ≤ 7302250; omega) ?_
  refine j_aload2 X dL_law_1166 ?_
  refine j_arg X 1 (v := 1) (by decide) (by rfl) dL_law_1167 dL_law_1168 dL_law_1169 dL_law_1170 dL_law_1171 (by omega) hL ?_
  refine j_arg X 2 (v := 2) (by decide) (by rfl) dL_law_1172 dL_law_1173 dL_law_1174 dL_law_1175 dL_law_1176 (by omega) hL ?_
  refine j_callM X (st := [.int r]) (As := [.int (xs (i + 1)), .int (xs (i + 2))]) dL_law_1177 ml_L_134 vw_X12_notice rfl (c_m_notice Γ.2.1 (setA ω2 (Am ω1 ad N)) ad0 N0 τ (xs (i + 1)) (xs (i + 2)) (r, τ') h2) rfl rfl (Nat.le_of_ble_eq_true rfl) ⟨rfl, rfl, by decide, by decide⟩ (by show _ ≤ 600000; omega) (by show _ ≤ 7302250; omega) ?_
  refine j_same X 1495 dL_law_1180 (by decide) ?_
  exact WJ.wide (k' := k + 1) (z' := z + 11) (by omega) (by omega) (next σ' τ' ad N h3)
theorem vw_X11_weeks : VW yX11_weeks cX11_weeks 7 (some .int) 5 := ⟨⟨(in_wt 80 (by decide +kernel) (by decide +kernel)), (in_wt 1090 (by decide +kernel) (by decide +kernel)), by decide +kernel⟩, (in_wt 1088 (by decide +kernel) (by decide +kernel)), (in_wt 1089 (by decide +kernel) (by decide +kernel))⟩
theorem vw_X12_weeks : VW yX12_weeks cX12_weeks 7 (some .int) 5 := ⟨⟨(in_wt 88 (by decide +kernel) (by decide +kernel)), (in_wt 1715 (by decide +kernel) (by decide +kernel)), by decide +kernel⟩, (in_wt 1713 (by decide +kernel) (by decide +kernel)), (in_wt 1714 (by decide +kernel) (by decide +kernel))⟩
theorem ml_L_135 : Cond.methodLink R_law 135 yX11_weeks ∈ wt := in_wt 1087 (by decide +kernel) (by decide +kernel)
theorem ml_L_138 : Cond.methodLink R_law 138 yX12_weeks ∈ wt := in_wt 1712 (by decide +kernel) (by decide +kernel)
set_option maxRecDepth 20000 in
set_option maxHeartbeats 4000000 in
theorem lc_weeks {Γ : CT} {b L : Nat} {xs : Nat → Int32} {ω1 ω2 : Wd} {Q : State → Prop} {k z : Nat} {σ τ : St} {ad : Nat → Nat → Nat} {N : Nat → Nat} (X : LX Γ b L xs ω1 ω2) {Inv : St → St → (Nat → Nat) → Prop} (S : S_weeks Inv) {i : Nat} (hi : i + 7 ≤ L) (hL : L < 2 ^ 31) (hI : Inv σ τ N) (hk : k + 1 ≤ 600000) (hz : z + 11 ≤ 7302250) (next : ∀ σ' τ' ad' N', Inv σ' τ' N' → WJ Γ b ω1 ω2 Q (k + 1) (z + 11) 1495 (nI i) [] σ' τ' ad' N') : WJ Γ b ω1 ω2 Q k z 1185 (nI i) [] σ τ ad N := by
  obtain ⟨r, σ', τ', h1, h2, h3⟩ := S σ τ N (xs (i + 1)) (xs (i + 2)) (xs (i + 3)) (xs (i + 4)) (xs (i + 5)) hI
  refine j_aload1 X dL_law_1185 ?_
  refine j_arg X 1 (v := 1) (by decide) (by rfl) dL_law_1186 dL_law_1187 dL_law_1188 dL_law_1189 dL_law_1190 (by omega) hL ?_
  refine j_arg X 2 (v := 2) (by decide) (by rfl) dL_law_1191 dL_law_1192 dL_law_1193 dL_law_1194 dL_law_1195 (by omega) hL ?_
  refine j_arg X 3 (v := 3) (by decide) (by rfl) dL_law_1196 dL_law_1197 dL_law_1198 dL_law_1199 dL_law_1200 (by omega) hL ?_
  refine j_arg X 4 (v := 4) (by decide) (by rfl) dL_law_1201 dL_law_1202 dL_law_1203 dL_law_1204 dL_law_1205 (by omega) hL ?_
  refine j_arg X 5 (v := 5) (by decide) (by rfl) dL_law_1206 dL_law_1207 dL_law_1208 dL_law_1209 dL_law_1210 (by omega) hL ?_
  refine j_callC X (st := []) (As := [.int (xs (i + 1)), .int (xs (i + 2)), .int (xs (i + 3)), .int (xs (i + 4)), .int (xs (i + 5))]) dL_law_1211 ml_L_135 vw_X11_weeks rfl (c_p_PE_weeks Γ.2.1 (setA ω1 (Ac ω1 ω2)) ad N σ (xs (i + 1)) (xs (i + 2)) (xs (i + 3)) (xs (i + 4)) (xs (i + 5)) (r, σ') h1) rfl rfl (Nat.le_of_ble_eq_true rfl) ⟨rfl, rfl, by decide, by decide⟩ (by show _ ≤ 600000; omega) (by show _ ≤ 7302250; omega) ?_
  refine j_aload2 X dL_law_1214 ?_
  refine j_arg X 1 (v := 1) (by decide) (by rfl) dL_law_1215 dL_law_1216 dL_law_1217 dL_law_1218 dL_law_1219 (by omega) hL ?_
  refine j_arg X 2 (v := 2) (by decide) (by rfl) dL_law_1220 dL_law_1221 dL_law_1222 dL_law_1223 dL_law_1224 (by omega) hL ?_
  refine j_arg X 3 (v := 3) (by decide) (by rfl) dL_law_1225 dL_law_1226 dL_law_1227 dL_law_1228 dL_law_1229 (by omega) hL ?_
  refine j_arg X 4 (v := 4) (by decide) (by rfl) dL_law_1230 dL_law_1231 dL_law_1232 dL_law_1233 dL_law_1234 (by omega) hL ?_
  refine j_arg X 5 (v := 5) (by decide) (by rfl) dL_law_1235 dL_law_1236 dL_law_1237 dL_law_1238 dL_law_1239 (by omega) hL ?_
  refine j_callM X (st := [.int r]) (As := [.int (xs (i + 1)), .int (xs (i + 2)), .int (xs (i + 3)), .int (xs (i + 4)), .int (xs (i + 5))]) dL_law_1240 ml_L_138 vw_X12_weeks rfl (c_m_weeks Γ.2.1 (setA ω2 (Am ω1 ad N)) ad0 N0 τ (xs (i + 1)) (xs (i + 2)) (xs (i + 3)) (xs (i + 4)) (xs (i + 5)) (r, τ') h2) rfl rfl (Nat.le_of_ble_eq_true rfl) ⟨rfl, rfl, by decide, by decide⟩ (by show _ ≤ 600000; omega) (by show _ ≤ 7302250; omega) ?_
  refine j_same X 1495 dL_law_1243 (by decide) ?_
  exact WJ.wide (k' := k + 1) (z' := z + 11) (by omega) (by omega) (next σ' τ' ad N h3)
theorem vw_X11_weekOf : VW yX11_weekOf cX11_weekOf 8 (some .int) 6 := ⟨⟨(in_wt 80 (by decide +kernel) (by decide +kernel)), (in_wt 1130 (by decide +kernel) (by decide +kernel)), by decide +kernel⟩, (in_wt 1128 (by decide +kernel) (by decide +kernel)), (in_wt 1129 (by decide +kernel) (by decide +kernel))⟩
theorem vw_X12_weekOf : VW yX12_weekOf cX12_weekOf 11 (some .int) 6 := ⟨⟨(in_wt 88 (by decide +kernel) (by decide +kernel)), (in_wt 1730 (by decide +kernel) (by decide +kernel)), by decide +kernel⟩, (in_wt 1728 (by decide +kernel) (by decide +kernel)), (in_wt 1729 (by decide +kernel) (by decide +kernel))⟩
theorem ml_L_139 : Cond.methodLink R_law 139 yX11_weekOf ∈ wt := in_wt 1127 (by decide +kernel) (by decide +kernel)
theorem ml_L_143 : Cond.methodLink R_law 143 yX12_weekOf ∈ wt := in_wt 1727 (by decide +kernel) (by decide +kernel)
set_option maxRecDepth 20000 in
set_option maxHeartbeats 4000000 in
theorem lc_weekOf {Γ : CT} {b L : Nat} {xs : Nat → Int32} {ω1 ω2 : Wd} {Q : State → Prop} {k z : Nat} {σ τ : St} {ad : Nat → Nat → Nat} {N : Nat → Nat} (X : LX Γ b L xs ω1 ω2) {Inv : St → St → (Nat → Nat) → Prop} (S : S_weekOf Inv) {i : Nat} (hi : i + 7 ≤ L) (hL : L < 2 ^ 31) (hI : Inv σ τ N) (hk : k + 1 ≤ 600000) (hz : z + 11 ≤ 7302250) (next : ∀ σ' τ' ad' N', Inv σ' τ' N' → WJ Γ b ω1 ω2 Q (k + 1) (z + 11) 1495 (nI i) [] σ' τ' ad' N') : WJ Γ b ω1 ω2 Q k z 1248 (nI i) [] σ τ ad N := by
  obtain ⟨r, σ', τ', h1, h2, h3⟩ := S σ τ N (xs (i + 1)) (xs (i + 2)) (xs (i + 3)) (xs (i + 4)) (xs (i + 5)) (xs (i + 6)) hI
  refine j_aload1 X dL_law_1248 ?_
  refine j_arg X 1 (v := 1) (by decide) (by rfl) dL_law_1249 dL_law_1250 dL_law_1251 dL_law_1252 dL_law_1253 (by omega) hL ?_
  refine j_arg X 2 (v := 2) (by decide) (by rfl) dL_law_1254 dL_law_1255 dL_law_1256 dL_law_1257 dL_law_1258 (by omega) hL ?_
  refine j_arg X 3 (v := 3) (by decide) (by rfl) dL_law_1259 dL_law_1260 dL_law_1261 dL_law_1262 dL_law_1263 (by omega) hL ?_
  refine j_arg X 4 (v := 4) (by decide) (by rfl) dL_law_1264 dL_law_1265 dL_law_1266 dL_law_1267 dL_law_1268 (by omega) hL ?_
  refine j_arg X 5 (v := 5) (by decide) (by rfl) dL_law_1269 dL_law_1270 dL_law_1271 dL_law_1272 dL_law_1273 (by omega) hL ?_
  refine j_arg6 X dL_law_1274 dL_law_1275 dL_law_1276 dL_law_1278 dL_law_1279 (by omega) hL ?_
  refine j_callC X (st := []) (As := [.int (xs (i + 1)), .int (xs (i + 2)), .int (xs (i + 3)), .int (xs (i + 4)), .int (xs (i + 5)), .int (xs (i + 6))]) dL_law_1280 ml_L_139 vw_X11_weekOf rfl (c_p_PE_weekOf Γ.2.1 (setA ω1 (Ac ω1 ω2)) ad N σ (xs (i + 1)) (xs (i + 2)) (xs (i + 3)) (xs (i + 4)) (xs (i + 5)) (xs (i + 6)) (r, σ') h1) rfl rfl (Nat.le_of_ble_eq_true rfl) ⟨rfl, rfl, by decide, by decide⟩ (by show _ ≤ 600000; omega) (by show _ ≤ 7302250; omega) ?_
  refine j_aload2 X dL_law_1283 ?_
  refine j_arg X 1 (v := 1) (by decide) (by rfl) dL_law_1284 dL_law_1285 dL_law_1286 dL_law_1287 dL_law_1288 (by omega) hL ?_
  refine j_arg X 2 (v := 2) (by decide) (by rfl) dL_law_1289 dL_law_1290 dL_law_1291 dL_law_1292 dL_law_1293 (by omega) hL ?_
  refine j_arg X 3 (v := 3) (by decide) (by rfl) dL_law_1294 dL_law_1295 dL_law_1296 dL_law_1297 dL_law_1298 (by omega) hL ?_
  refine j_arg X 4 (v := 4) (by decide) (by rfl) dL_law_1299 dL_law_1300 dL_law_1301 dL_law_1302 dL_law_1303 (by omega) hL ?_
  refine j_arg X 5 (v := 5) (by decide) (by rfl) dL_law_1304 dL_law_1305 dL_law_1306 dL_law_1307 dL_law_1308 (by omega) hL ?_
  refine j_arg6 X dL_law_1309 dL_law_1310 dL_law_1311 dL_law_1313 dL_law_1314 (by omega) hL ?_
  refine j_callM X (st := [.int r]) (As := [.int (xs (i + 1)), .int (xs (i + 2)), .int (xs (i + 3)), .int (xs (i + 4)), .int (xs (i + 5)), .int (xs (i + 6))]) dL_law_1315 ml_L_143 vw_X12_weekOf rfl (c_m_weekOf Γ.2.1 (setA ω2 (Am ω1 ad N)) ad0 N0 τ (xs (i + 1)) (xs (i + 2)) (xs (i + 3)) (xs (i + 4)) (xs (i + 5)) (xs (i + 6)) (r, τ') h2) rfl rfl (Nat.le_of_ble_eq_true rfl) ⟨rfl, rfl, by decide, by decide⟩ (by show _ ≤ 600000; omega) (by show _ ≤ 7302250; omega) ?_
  refine j_same X 1495 dL_law_1318 (by decide) ?_
  exact WJ.wide (k' := k + 1) (z' := z + 11) (by omega) (by omega) (next σ' τ' ad N h3)
theorem vw_X11_turning : VW yX11_turning cX11_turning 9 (some .int) 5 := ⟨⟨(in_wt 80 (by decide +kernel) (by decide +kernel)), (in_wt 1142 (by decide +kernel) (by decide +kernel)), by decide +kernel⟩, (in_wt 1140 (by decide +kernel) (by decide +kernel)), (in_wt 1141 (by decide +kernel) (by decide +kernel))⟩
theorem vw_X12_turning : VW yX12_turning cX12_turning 12 (some .int) 5 := ⟨⟨(in_wt 88 (by decide +kernel) (by decide +kernel)), (in_wt 1734 (by decide +kernel) (by decide +kernel)), by decide +kernel⟩, (in_wt 1732 (by decide +kernel) (by decide +kernel)), (in_wt 1733 (by decide +kernel) (by decide +kernel))⟩
theorem ml_L_144 : Cond.methodLink R_law 144 yX11_turning ∈ wt := in_wt 1139 (by decide +kernel) (by decide +kernel)
theorem ml_L_147 : Cond.methodLink R_law 147 yX12_turning ∈ wt := in_wt 1731 (by decide +kernel) (by decide +kernel)
set_option maxRecDepth 20000 in
set_option maxHeartbeats 4000000 in
theorem lc_turning {Γ : CT} {b L : Nat} {xs : Nat → Int32} {ω1 ω2 : Wd} {Q : State → Prop} {k z : Nat} {σ τ : St} {ad : Nat → Nat → Nat} {N : Nat → Nat} (X : LX Γ b L xs ω1 ω2) {Inv : St → St → (Nat → Nat) → Prop} (S : S_turning Inv) {i : Nat} (hi : i + 7 ≤ L) (hL : L < 2 ^ 31) (hI : Inv σ τ N) (hk : k + 1 ≤ 600000) (hz : z + 11 ≤ 7302250) (next : ∀ σ' τ' ad' N', Inv σ' τ' N' → WJ Γ b ω1 ω2 Q (k + 1) (z + 11) 1495 (nI i) [] σ' τ' ad' N') : WJ Γ b ω1 ω2 Q k z 1323 (nI i) [] σ τ ad N := by
  obtain ⟨r, σ', τ', h1, h2, h3⟩ := S σ τ N (xs (i + 1)) (xs (i + 2)) (xs (i + 3)) (xs (i + 4)) (xs (i + 5)) hI
  refine j_aload1 X dL_law_1323 ?_
  refine j_arg X 1 (v := 1) (by decide) (by rfl) dL_law_1324 dL_law_1325 dL_law_1326 dL_law_1327 dL_law_1328 (by omega) hL ?_
  refine j_arg X 2 (v := 2) (by decide) (by rfl) dL_law_1329 dL_law_1330 dL_law_1331 dL_law_1332 dL_law_1333 (by omega) hL ?_
  refine j_arg X 3 (v := 3) (by decide) (by rfl) dL_law_1334 dL_law_1335 dL_law_1336 dL_law_1337 dL_law_1338 (by omega) hL ?_
  refine j_arg X 4 (v := 4) (by decide) (by rfl) dL_law_1339 dL_law_1340 dL_law_1341 dL_law_1342 dL_law_1343 (by omega) hL ?_
  refine j_arg X 5 (v := 5) (by decide) (by rfl) dL_law_1344 dL_law_1345 dL_law_1346 dL_law_1347 dL_law_1348 (by omega) hL ?_
  refine j_callC X (st := []) (As := [.int (xs (i + 1)), .int (xs (i + 2)), .int (xs (i + 3)), .int (xs (i + 4)), .int (xs (i + 5))]) dL_law_1349 ml_L_144 vw_X11_turning rfl (c_p_PE_turning Γ.2.1 (setA ω1 (Ac ω1 ω2)) ad N σ (xs (i + 1)) (xs (i + 2)) (xs (i + 3)) (xs (i + 4)) (xs (i + 5)) (r, σ') h1) rfl rfl (Nat.le_of_ble_eq_true rfl) ⟨rfl, rfl, by decide, by decide⟩ (by show _ ≤ 600000; omega) (by show _ ≤ 7302250; omega) ?_
  refine j_aload2 X dL_law_1352 ?_
  refine j_arg X 1 (v := 1) (by decide) (by rfl) dL_law_1353 dL_law_1354 dL_law_1355 dL_law_1356 dL_law_1357 (by omega) hL ?_
  refine j_arg X 2 (v := 2) (by decide) (by rfl) dL_law_1358 dL_law_1359 dL_law_1360 dL_law_1361 dL_law_1362 (by omega) hL ?_
  refine j_arg X 3 (v := 3) (by decide) (by rfl) dL_law_1363 dL_law_1364 dL_law_1365 dL_law_1366 dL_law_1367 (by omega) hL ?_
  refine j_arg X 4 (v := 4) (by decide) (by rfl) dL_law_1368 dL_law_1369 dL_law_1370 dL_law_1371 dL_law_1372 (by omega) hL ?_
  refine j_arg X 5 (v := 5) (by decide) (by rfl) dL_law_1373 dL_law_1374 dL_law_1375 dL_law_1376 dL_law_1377 (by omega) hL ?_
  refine j_callM X (st := [.int r]) (As := [.int (xs (i + 1)), .int (xs (i + 2)), .int (xs (i + 3)), .int (xs (i + 4)), .int (xs (i + 5))]) dL_law_1378 ml_L_147 vw_X12_turning rfl (c_m_turning Γ.2.1 (setA ω2 (Am ω1 ad N)) ad0 N0 τ (xs (i + 1)) (xs (i + 2)) (xs (i + 3)) (xs (i + 4)) (xs (i + 5)) (r, τ') h2) rfl rfl (Nat.le_of_ble_eq_true rfl) ⟨rfl, rfl, by decide, by decide⟩ (by show _ ≤ 600000; omega) (by show _ ≤ 7302250; omega) ?_
  refine j_same X 1495 dL_law_1381 (by decide) ?_
  exact WJ.wide (k' := k + 1) (z' := z + 11) (by omega) (by omega) (next σ' τ' ad N h3)
theorem vw_X11_moved : VW yX11_moved cX11_moved 7 (some .int) 5 := ⟨⟨(in_wt 80 (by decide +kernel) (by decide +kernel)), (in_wt 1163 (by decide +kernel) (by decide +kernel)), by decide +kernel⟩, (in_wt 1161 (by decide +kernel) (by decide +kernel)), (in_wt 1162 (by decide +kernel) (by decide +kernel))⟩
theorem vw_X12_moved : VW yX12_moved cX12_moved 8 (some .int) 5 := ⟨⟨(in_wt 88 (by decide +kernel) (by decide +kernel)), (in_wt 1742 (by decide +kernel) (by decide +kernel)), by decide +kernel⟩, (in_wt 1740 (by decide +kernel) (by decide +kernel)), (in_wt 1741 (by decide +kernel) (by decide +kernel))⟩
theorem ml_L_148 : Cond.methodLink R_law 148 yX11_moved ∈ wt := in_wt 1160 (by decide +kernel) (by decide +kernel)
theorem ml_L_151 : Cond.methodLink R_law 151 yX12_moved ∈ wt := in_wt 1739 (by decide +kernel) (by decide +kernel)
set_option maxRecDepth 20000 in
set_option maxHeartbeats 4000000 in
theorem lc_moved {Γ : CT} {b L : Nat} {xs : Nat → Int32} {ω1 ω2 : Wd} {Q : State → Prop} {k z : Nat} {σ τ : St} {ad : Nat → Nat → Nat} {N : Nat → Nat} (X : LX Γ b L xs ω1 ω2) {Inv : St → St → (Nat → Nat) → Prop} (S : S_moved Inv) {i : Nat} (hi : i + 7 ≤ L) (hL : L < 2 ^ 31) (hI : Inv σ τ N) (hk : k + 1 ≤ 600000) (hz : z + 11 ≤ 7302250) (next : ∀ σ' τ' ad' N', Inv σ' τ' N' → WJ Γ b ω1 ω2 Q (k + 1) (z + 11) 1495 (nI i) [] σ' τ' ad' N') : WJ Γ b ω1 ω2 Q k z 1386 (nI i) [] σ τ ad N := by
  obtain ⟨r, σ', τ', h1, h2, h3⟩ := S σ τ N (xs (i + 1)) (xs (i + 2)) (xs (i + 3)) (xs (i + 4)) (xs (i + 5)) hI
  refine j_aload1 X dL_law_1386 ?_
  refine j_arg X 1 (v := 1) (by decide) (by rfl) dL_law_1387 dL_law_1388 dL_law_1389 dL_law_1390 dL_law_1391 (by omega) hL ?_
  refine j_arg X 2 (v := 2) (by decide) (by rfl) dL_law_1392 dL_law_1393 dL_law_1394 dL_law_1395 dL_law_1396 (by omega) hL ?_
  refine j_arg X 3 (v := 3) (by decide) (by rfl) dL_law_1397 dL_law_1398 dL_law_1399 dL_law_1400 dL_law_1401 (by omega) hL ?_
  refine j_arg X 4 (v := 4) (by decide) (by rfl) dL_law_1402 dL_law_1403 dL_law_1404 dL_law_1405 dL_law_1406 (by omega) hL ?_
  refine j_arg X 5 (v := 5) (by decide) (by rfl) dL_law_1407 dL_law_1408 dL_law_1409 dL_law_1410 dL_law_1411 (by omega) hL ?_
  refine j_callC X (st := []) (As := [.int (xs (i + 1)), .int (xs (i + 2)), .int (xs (i + 3)), .int (xs (i + 4)), .int (xs (i + 5))]) dL_law_1412 ml_L_148 vw_X11_moved rfl (c_p_PE_moved Γ.2.1 (setA ω1 (Ac ω1 ω2)) ad N σ (xs (i + 1)) (xs (i + 2)) (xs (i + 3)) (xs (i + 4)) (xs (i + 5)) (r, σ') h1) rfl rfl (Nat.le_of_ble_eq_true rfl) ⟨rfl, rfl, by decide, by decide⟩ (by show _ ≤ 600000; omega) (by show _ ≤ 7302250; omega) ?_
  refine j_aload2 X dL_law_1415 ?_
  refine j_arg X 1 (v := 1) (by decide) (by rfl) dL_law_1416 dL_law_1417 dL_law_1418 dL_law_1419 dL_law_1420 (by omega) hL ?_
  refine j_arg X 2 (v := 2) (by decide) (by rfl) dL_law_1421 dL_law_1422 dL_law_1423 dL_law_1424 dL_law_1425 (by omega) hL ?_
  refine j_arg X 3 (v := 3) (by decide) (by rfl) dL_law_1426 dL_law_1427 dL_law_1428 dL_law_1429 dL_law_1430 (by omega) hL ?_
  refine j_arg X 4 (v := 4) (by decide) (by rfl) dL_law_1431 dL_law_1432 dL_law_1433 dL_law_1434 dL_law_1435 (by omega) hL ?_
  refine j_arg X 5 (v := 5) (by decide) (by rfl) dL_law_1436 dL_law_1437 dL_law_1438 dL_law_1439 dL_law_1440 (by omega) hL ?_
  refine j_callM X (st := [.int r]) (As := [.int (xs (i + 1)), .int (xs (i + 2)), .int (xs (i + 3)), .int (xs (i + 4)), .int (xs (i + 5))]) dL_law_1441 ml_L_151 vw_X12_moved rfl (c_m_moved Γ.2.1 (setA ω2 (Am ω1 ad N)) ad0 N0 τ (xs (i + 1)) (xs (i + 2)) (xs (i + 3)) (xs (i + 4)) (xs (i + 5)) (r, τ') h2) rfl rfl (Nat.le_of_ble_eq_true rfl) ⟨rfl, rfl, by decide, by decide⟩ (by show _ ≤ 600000; omega) (by show _ ≤ 7302250; omega) ?_
  refine j_same X 1495 dL_law_1444 (by decide) ?_
  exact WJ.wide (k' := k + 1) (z' := z + 11) (by omega) (by omega) (next σ' τ' ad N h3)
theorem vw_X11_back : VW yX11_back cX11_back 4 (some .int) 1 := ⟨⟨(in_wt 80 (by decide +kernel) (by decide +kernel)), (in_wt 1189 (by decide +kernel) (by decide +kernel)), by decide +kernel⟩, (in_wt 1187 (by decide +kernel) (by decide +kernel)), (in_wt 1188 (by decide +kernel) (by decide +kernel))⟩
theorem vw_X12_back : VW yX12_back cX12_back 6 (some .int) 1 := ⟨⟨(in_wt 88 (by decide +kernel) (by decide +kernel)), (in_wt 1746 (by decide +kernel) (by decide +kernel)), by decide +kernel⟩, (in_wt 1744 (by decide +kernel) (by decide +kernel)), (in_wt 1745 (by decide +kernel) (by decide +kernel))⟩
theorem ml_L_152 : Cond.methodLink R_law 152 yX11_back ∈ wt := in_wt 1186 (by decide +kernel) (by decide +kernel)
theorem ml_L_155 : Cond.methodLink R_law 155 yX12_back ∈ wt := in_wt 1743 (by decide +kernel) (by decide +kernel)
set_option maxRecDepth 20000 in
set_option maxHeartbeats 4000000 in
theorem lc_back {Γ : CT} {b L : Nat} {xs : Nat → Int32} {ω1 ω2 : Wd} {Q : State → Prop} {k z : Nat} {σ τ : St} {ad : Nat → Nat → Nat} {N : Nat → Nat} (X : LX Γ b L xs ω1 ω2) {Inv : St → St → (Nat → Nat) → Prop} (S : S_back Inv) {i : Nat} (hi : i + 7 ≤ L) (hL : L < 2 ^ 31) (hI : Inv σ τ N) (hk : k + 1 ≤ 600000) (hz : z + 11 ≤ 7302250) (next : ∀ σ' τ' ad' N', Inv σ' τ' N' → WJ Γ b ω1 ω2 Q (k + 1) (z + 11) 1495 (nI i) [] σ' τ' ad' N') : WJ Γ b ω1 ω2 Q k z 1449 (nI i) [] σ τ ad N := by
  obtain ⟨r, σ', τ', h1, h2, h3⟩ := S σ τ N (xs (i + 1)) hI
  refine j_aload1 X dL_law_1449 ?_
  refine j_arg X 1 (v := 1) (by decide) (by rfl) dL_law_1450 dL_law_1451 dL_law_1452 dL_law_1453 dL_law_1454 (by omega) hL ?_
  refine j_callC X (st := []) (As := [.int (xs (i + 1))]) dL_law_1455 ml_L_152 vw_X11_back rfl (c_p_PE_back Γ.2.1 (setA ω1 (Ac ω1 ω2)) ad N σ (xs (i + 1)) (r, σ') h1) rfl rfl (Nat.le_of_ble_eq_true rfl) ⟨rfl, rfl, by decide, by decide⟩ (by show _ ≤ 600000; omega) (by show _ ≤ 7302250; omega) ?_
  refine j_aload2 X dL_law_1458 ?_
  refine j_arg X 1 (v := 1) (by decide) (by rfl) dL_law_1459 dL_law_1460 dL_law_1461 dL_law_1462 dL_law_1463 (by omega) hL ?_
  refine j_callM X (st := [.int r]) (As := [.int (xs (i + 1))]) dL_law_1464 ml_L_155 vw_X12_back rfl (c_m_back Γ.2.1 (setA ω2 (Am ω1 ad N)) ad0 N0 τ (xs (i + 1)) (r, τ') h2) rfl rfl (Nat.le_of_ble_eq_true rfl) ⟨rfl, rfl, by decide, by decide⟩ (by show _ ≤ 600000; omega) (by show _ ≤ 7302250; omega) ?_
  refine j_same X 1495 dL_law_1467 (by decide) ?_
  exact WJ.wide (k' := k + 1) (z' := z + 11) (by omega) (by omega) (next σ' τ' ad N h3)
theorem vw_X11_count : VW yX11_count cX11_count 2 (some .int) 1 := ⟨⟨(in_wt 80 (by decide +kernel) (by decide +kernel)), (in_wt 1204 (by decide +kernel) (by decide +kernel)), by decide +kernel⟩, (in_wt 1202 (by decide +kernel) (by decide +kernel)), (in_wt 1203 (by decide +kernel) (by decide +kernel))⟩
theorem vw_X12_count : VW yX12_count cX12_count 4 (some .int) 1 := ⟨⟨(in_wt 88 (by decide +kernel) (by decide +kernel)), (in_wt 1750 (by decide +kernel) (by decide +kernel)), by decide +kernel⟩, (in_wt 1748 (by decide +kernel) (by decide +kernel)), (in_wt 1749 (by decide +kernel) (by decide +kernel))⟩
theorem ml_L_156 : Cond.methodLink R_law 156 yX11_count ∈ wt := in_wt 1201 (by decide +kernel) (by decide +kernel)
theorem ml_L_159 : Cond.methodLink R_law 159 yX12_count ∈ wt := in_wt 1747 (by decide +kernel) (by decide +kernel)
set_option maxRecDepth 20000 in
set_option maxHeartbeats 4000000 in
theorem lc_count {Γ : CT} {b L : Nat} {xs : Nat → Int32} {ω1 ω2 : Wd} {Q : State → Prop} {k z : Nat} {σ τ : St} {ad : Nat → Nat → Nat} {N : Nat → Nat} (X : LX Γ b L xs ω1 ω2) {Inv : St → St → (Nat → Nat) → Prop} (S : S_count Inv) {i : Nat} (hi : i + 7 ≤ L) (hL : L < 2 ^ 31) (hI : Inv σ τ N) (hk : k + 1 ≤ 600000) (hz : z + 11 ≤ 7302250) (next : ∀ σ' τ' ad' N', Inv σ' τ' N' → WJ Γ b ω1 ω2 Q (k + 1) (z + 11) 1495 (nI i) [] σ' τ' ad' N') : WJ Γ b ω1 ω2 Q k z 1472 (nI i) [] σ τ ad N := by
  obtain ⟨r, h1, h2⟩ := S σ τ N (xs (i + 1)) hI
  refine j_aload1 X dL_law_1472 ?_
  refine j_arg X 1 (v := 1) (by decide) (by rfl) dL_law_1473 dL_law_1474 dL_law_1475 dL_law_1476 dL_law_1477 (by omega) hL ?_
  refine j_callC X (st := []) (As := [.int (xs (i + 1))]) dL_law_1478 ml_L_156 vw_X11_count rfl (c_p_PE_count Γ.2.1 (setA ω1 (Ac ω1 ω2)) ad N σ (xs (i + 1)) r h1) rfl rfl (Nat.le_of_ble_eq_true rfl) ⟨rfl, rfl, by decide, by decide⟩ (by show _ ≤ 600000; omega) (by show _ ≤ 7302250; omega) ?_
  refine j_aload2 X dL_law_1481 ?_
  refine j_arg X 1 (v := 1) (by decide) (by rfl) dL_law_1482 dL_law_1483 dL_law_1484 dL_law_1485 dL_law_1486 (by omega) hL ?_
  refine j_callM X (st := [.int r]) (As := [.int (xs (i + 1))]) dL_law_1487 ml_L_159 vw_X12_count rfl (c_m_count Γ.2.1 (setA ω2 (Am ω1 ad N)) ad0 N0 τ (xs (i + 1)) r h2) rfl rfl (Nat.le_of_ble_eq_true rfl) ⟨rfl, rfl, by decide, by decide⟩ (by show _ ≤ 600000; omega) (by show _ ≤ 7302250; omega) ?_
  refine j_same X 1495 dL_law_1490 (by decide) ?_
  exact WJ.wide (k' := k + 1) (z' := z + 11) (by omega) (by omega) (next σ τ ad N hI)
