/-! ===== count ===== -/
section Count
variable {σ τ : St} {U P Q T R L E : Nat}
theorem cnt_step {p : Nat → Bool} (i : Nat) : nI (cnt p (i + 1)) = if p i then nI (cnt p i) + 1 else nI (cnt p i) := by
  show nI (cnt p i + if p i then 1 else 0) = _
  split
  · rw [nI_1]
  · rfl
def opB (τ : St) (p : Nat) : Bool := decide (τ.1 0 8 p < 0)
def vaB (σ τ : St) (p : Nat) : Bool := decide (τ.1 0 8 p < 0 ∧ σ.2 1 p 7 = none)
def heB (τ : St) (k : Nat) : Bool := decide (τ.1 0 14 k < 0)
def voB (τ : St) (k : Nat) : Bool := decide (τ.1 0 14 k < 0 ∧ ¬ τ.1 0 16 k < 0)
theorem vac_bI (hp : IPo σ τ U P Q) (hq : IPe σ τ P Q T) {p : Nat} (hpp : p < P) : p_Post_isVacant σ p = some (if vaB σ τ p then 1 else 0) ∧ m_isVacant τ (nI p) = some (if vaB σ τ p then 1 else 0) := by
  obtain ⟨b, h1, h2, h3⟩ := vac_eq hp hq hpp
  have : b = vaB σ τ p := by
    rw [Bool.eq_iff_iff, h1]
    unfold vaB
    rw [decide_eq_true_iff]
    rfl
  rw [← this]
  exact ⟨h2, h3⟩
theorem p_open_cnt (hp : IPo σ τ U P Q) : p_Firm_openPosts σ = some (nI (cnt (opB τ) P)) := by
  have hP := hp.1
  unfold p_Firm_openPosts
  refine itr_bd P (fun i => (nI (cnt (opB τ) i), nI i)) (nI (cnt (opB τ) P)) (FU_lt (by omega)) rfl (fun i hi => ?_) ?_ rfl
  · simp only [hp.2.2.1, if_pos (nI_lt hi (show P < 2 ^ 31 by omega)), postAt_t hp hi, obs, oes, p_open_eq hp hi, bI_eq0, cnt_step, nI_1]
    by_cases h : τ.1 0 8 i < 0
    · simp [h, opB]
    · simp [h, opB]
  · simp only [hp.2.2.1, if_neg (nI_nlt (Nat.le_refl P) (show P < 2 ^ 31 by omega))]
theorem p_vac_cnt (hp : IPo σ τ U P Q) (hq : IPe σ τ P Q T) : p_Firm_vacantPosts σ = some (nI (cnt (vaB σ τ) P)) := by
  have hP := hp.1
  unfold p_Firm_vacantPosts
  refine itr_bd P (fun i => (nI (cnt (vaB σ τ) i), nI i)) (nI (cnt (vaB σ τ) P)) (FU_lt (by omega)) rfl (fun i hi => ?_) ?_ rfl
  · simp only [hp.2.2.1, if_pos (nI_lt hi (show P < 2 ^ 31 by omega)), postAt_t hp hi, obs, oes, (vac_bI hp hq hi).1, cnt_step, nI_1]
    cases vaB σ τ i
    · simp
    · simp
  · simp only [hp.2.2.1, if_neg (nI_nlt (Nat.le_refl P) (show P < 2 ^ 31 by omega))]
theorem p_here_cnt (hq : IPe σ τ P Q T) : p_Firm_peopleHere σ = some (nI (cnt (heB τ) Q)) := by
  have hQ := hq.1
  unfold p_Firm_peopleHere
  refine itr_bd Q (fun i => (nI (cnt (heB τ) i), nI i)) (nI (cnt (heB τ) Q)) (FU_lt (by omega)) rfl (fun i hi => ?_) ?_ rfl
  · simp only [hq.2.2.1, if_pos (nI_lt hi (show Q < 2 ^ 31 by omega)), personAt_t hq hi, obs, oes, (isHere_eq hq hi).1, bI_eq0, cnt_step, nI_1]
    by_cases h : τ.1 0 14 i < 0
    · simp [h, heB]
    · simp [h, heB]
  · simp only [hq.2.2.1, if_neg (nI_nlt (Nat.le_refl Q) (show Q < 2 ^ 31 by omega))]
theorem p_vol_cnt (hq : IPe σ τ P Q T) : p_Firm_volunteersHere σ = some (nI (cnt (voB τ) Q)) := by
  have hQ := hq.1
  unfold p_Firm_volunteersHere
  refine itr_bd Q (fun i => (nI (cnt (voB τ) i), nI i)) (nI (cnt (voB τ) Q)) (FU_lt (by omega)) rfl (fun i hi => ?_) ?_ rfl
  · have e8 := (hq.2.2.2 i hi).2.2.2.2.2.2.2.1
    simp only [hq.2.2.1, if_pos (nI_lt hi (show Q < 2 ^ 31 by omega)), personAt_t hq hi, obs, oes, (isHere_eq hq hi).1, bI_eq0, cnt_step, nI_1, p_Person_isVolunteer, e8]
    by_cases h : τ.1 0 14 i < 0
    · by_cases h2 : τ.1 0 16 i < 0
      · simp [h, h2, voB]
      · simp only [h, h2, not_true, if_false, voB, not_false_iff, and_self, decide_true, if_true, obs, if_neg (show ¬ (1 : Int32) = 0 by decide)]
    · simp [h, voB]
  · simp only [hq.2.2.1, if_neg (nI_nlt (Nat.le_refl Q) (show Q < 2 ^ 31 by omega))]
end Count
theorem ref_eq {σ τ : St} (hs : ISc σ τ) (a1 : Int32) : (p_PE_refusalsOf σ (a1 - 10)) = (m_in a1 11 16).bind fun r68 => if r68 = 0 then some (-9 : Int32) else (ix 7 (a1 - 10)).bind fun i70 => some (τ.1 0 18 i70) := by
  rw [m_in_eq]
  simp only [obs, bI_eq0]
  unfold p_PE_refusalsOf
  have e11 : (11 : Int32).toInt = 11 := rfl
  have e16 : (16 : Int32).toInt = 16 := rfl
  by_cases h : (11 : Int32) ≤ a1 ∧ a1 ≤ 16
  · rw [if_neg (show ¬ ¬ ((11 : Int32) ≤ a1 ∧ a1 ≤ 16) from fun c => c h)]
    obtain ⟨h1, h2⟩ := h
    rw [i_le] at h1 h2
    obtain ⟨n, h3, rfl⟩ := rg_nI (hi := 16) (x := a1) ⟨by omega, by omega⟩
    rw [nI_toInt (by omega)] at h1 h2
    have e : nI n - 10 = nI (n - 10) := pk_sub (b := 10) (by omega)
    rw [e, if_neg (show ¬ nI (n - 10) < 1 from nI_nlt (b := 1) (by omega) (by omega)), if_neg (show ¬ (6 : Int32) < nI (n - 10) from nI_nlt (a := 6) (by omega) (by omega)), ix_nI (show n - 10 < 7 by omega) (by decide)]
    simp only [obs]
    rw [hs.2.2.2.2.2.2.2.2.2 (n - 10) (by omega)]
  · rw [if_pos (show ¬ ((11 : Int32) ≤ a1 ∧ a1 ≤ 16) from h)]
    by_cases h1 : a1 - 10 < 1
    · rw [if_pos h1]
    · rw [if_neg h1]
      by_cases h2 : (6 : Int32) < a1 - 10
      · rw [if_pos h2]
      · exfalso
        have e1 : (1 : Int32).toInt = 1 := rfl
        have e6 : (6 : Int32).toInt = 6 := rfl
        rw [i_lt] at h1 h2
        obtain ⟨n, h3, h4⟩ := rg_nI (hi := 6) (x := a1 - 10) ⟨by omega, by omega⟩
        have h5 : a1 = nI (n + 10) := by
          rw [← nI_add, ← h4]
          show a1 = a1 - 10 + 10
          rw [Int32.sub_add_cancel]
        rw [h4, nI_toInt (by omega)] at h1
        refine h ⟨?_, ?_⟩
        · rw [h5]; exact nI_le (a := 11) (by omega) (by omega)
        · rw [h5]; exact nI_le (b := 16) (by omega) (by decide)
set_option maxHeartbeats 800000 in
theorem s_count : S_count Inv := by
  intro σ τ N a1 hI
  obtain ⟨U, L, E, hs, hu, hp, hq, ht, hr, hl, he⟩ := id hI
  have hP := hp.1
  have hQ := hq.1
  unfold p_PE_count m_count
  by_cases h0 : a1 = 0
  · simp only [if_pos h0, hs.1]; exact ⟨_, rfl, rfl⟩
  by_cases h1 : a1 = 1
  · simp only [if_neg h0, if_pos h1, hu.2.1, hu.2.2.1]; exact ⟨_, rfl, rfl⟩
  by_cases h2 : a1 = 2
  · simp only [if_neg h0, if_neg h1, if_pos h2, hp.2.1, hp.2.2.1]; exact ⟨_, rfl, rfl⟩
  by_cases h3 : a1 = 3
  · simp only [if_neg h0, if_neg h1, if_neg h2, if_pos h3, p_open_cnt hp, obs]
    refine ⟨_, rfl, ?_⟩
    refine itr_bd (N 1) (fun i => (nI (cnt (opB τ) i), nI i)) (nI (cnt (opB τ) (N 1))) (FU_lt (by omega)) rfl (fun i hi => ?_) ?_ rfl
    · simp only [hp.2.1, if_pos (nI_lt hi (show N 1 < 2 ^ 31 by omega)), ix_nI (show i < 40 by omega) (show 40 < 2 ^ 31 by decide), obs, cnt_step, nI_1]
      by_cases h : τ.1 0 8 i < 0
      · simp [h, opB, nI_1]
      · simp [h, opB]
    · simp only [hp.2.1, if_neg (nI_nlt (Nat.le_refl (N 1)) (show N 1 < 2 ^ 31 by omega))]
  by_cases h4 : a1 = 4
  · simp only [if_neg h0, if_neg h1, if_neg h2, if_neg h3, if_pos h4, p_vac_cnt hp hq, obs]
    refine ⟨_, rfl, ?_⟩
    refine itr_bd (N 1) (fun i => (nI (cnt (vaB σ τ) i), nI i)) (nI (cnt (vaB σ τ) (N 1))) (FU_lt (by omega)) rfl (fun i hi => ?_) ?_ rfl
    · simp only [hp.2.1, if_pos (nI_lt hi (show N 1 < 2 ^ 31 by omega)), (vac_bI hp hq hi).2, obs, cnt_step, nI_1]
      cases vaB σ τ i
      · simp
      · simp [nI_1]
    · simp only [hp.2.1, if_neg (nI_nlt (Nat.le_refl (N 1)) (show N 1 < 2 ^ 31 by omega))]
  by_cases h5 : a1 = 5
  · simp only [if_neg h0, if_neg h1, if_neg h2, if_neg h3, if_neg h4, if_pos h5, hq.2.1, hq.2.2.1]; exact ⟨_, rfl, rfl⟩
  by_cases h6 : a1 = 6
  · simp only [if_neg h0, if_neg h1, if_neg h2, if_neg h3, if_neg h4, if_neg h5, if_pos h6, p_here_cnt hq, obs]
    refine ⟨_, rfl, ?_⟩
    refine itr_bd (N 2) (fun i => (nI (cnt (heB τ) i), nI i)) (nI (cnt (heB τ) (N 2))) (FU_lt (by omega)) rfl (fun i hi => ?_) ?_ rfl
    · simp only [hq.2.1, if_pos (nI_lt hi (show N 2 < 2 ^ 31 by omega)), (isHere_eq hq hi).2, obs, bI_eq0, cnt_step, nI_1]
      by_cases h : τ.1 0 14 i < 0
      · simp [h, heB, nI_1]
      · simp [h, heB]
    · simp only [hq.2.1, if_neg (nI_nlt (Nat.le_refl (N 2)) (show N 2 < 2 ^ 31 by omega))]
  by_cases h7 : a1 = 7
  · simp only [if_neg h0, if_neg h1, if_neg h2, if_neg h3, if_neg h4, if_neg h5, if_neg h6, if_pos h7, ht.2.1, ht.2.2.1]; exact ⟨_, rfl, rfl⟩
  by_cases h8 : a1 = 8
  · simp only [if_neg h0, if_neg h1, if_neg h2, if_neg h3, if_neg h4, if_neg h5, if_neg h6, if_neg h7, if_pos h8, hr.2.1, hr.2.2.1]; exact ⟨_, rfl, rfl⟩
  by_cases h9 : a1 = 9
  · simp only [if_neg h0, if_neg h1, if_neg h2, if_neg h3, if_neg h4, if_neg h5, if_neg h6, if_neg h7, if_neg h8, if_pos h9, p_vol_cnt hq, obs]
    refine ⟨_, rfl, ?_⟩
    refine itr_bd (N 2) (fun i => (nI (cnt (voB τ) i), nI i)) (nI (cnt (voB τ) (N 2))) (FU_lt (by omega)) rfl (fun i hi => ?_) ?_ rfl
    · simp only [hq.2.1, if_pos (nI_lt hi (show N 2 < 2 ^ 31 by omega)), (isHere_eq hq hi).2, obs, bI_eq0, cnt_step, nI_1, ix_nI (show i < 40 by omega) (show 40 < 2 ^ 31 by decide)]
      by_cases h : τ.1 0 14 i < 0
      · by_cases h2 : τ.1 0 16 i < 0
        · simp [h, h2, voB]
        · simp only [h, h2, not_true, if_false, voB, not_false_iff, and_self, decide_true, if_true, obs, nI_1]
      · simp [h, voB]
    · simp only [hq.2.1, if_neg (nI_nlt (Nat.le_refl (N 2)) (show N 2 < 2 ^ 31 by omega))]
  by_cases h10 : a1 = 10
  · simp only [if_neg h0, if_neg h1, if_neg h2, if_neg h3, if_neg h4, if_neg h5, if_neg h6, if_neg h7, if_neg h8, if_neg h9, if_pos h10, hl.2.1, hl.2.2.1]; exact ⟨_, rfl, rfl⟩
  simp only [if_neg h0, if_neg h1, if_neg h2, if_neg h3, if_neg h4, if_neg h5, if_neg h6, if_neg h7, if_neg h8, if_neg h9, if_neg h10]
  rw [← ref_eq hs a1]
  have : ∃ r, p_PE_refusalsOf σ (a1 - 10) = some r := by
    unfold p_PE_refusalsOf
    by_cases c1 : a1 - 10 < 1
    · rw [if_pos c1]; exact ⟨_, rfl⟩
    · rw [if_neg c1]
      by_cases c2 : (6 : Int32) < a1 - 10
      · rw [if_pos c2]; exact ⟨_, rfl⟩
      · rw [if_neg c2]
        obtain ⟨n, d1, d2⟩ := rg_nI (hi := 6) (x := a1 - 10) (by
          rw [i_lt] at c1 c2
          have e1 : (1 : Int32).toInt = 1 := rfl
          have e6 : (6 : Int32).toInt = 6 := rfl
          exact ⟨by omega, by omega⟩)
        rw [d2, ix_nI (show n < 7 by omega) (by decide)]
        exact ⟨_, rfl⟩
  obtain ⟨r, hr'⟩ := this
  rw [hr']
  exact ⟨r, rfl, rfl⟩
