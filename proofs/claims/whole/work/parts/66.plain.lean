/-! ===== years, severance ===== -/
def yr (τ : St) (k : Nat) : Int32 := (τ.1 0 0 0 - τ.1 0 10 k) / 365
def sev (τ : St) (k : Nat) : Int32 := (if (30 : Int32) < yr τ k then 30 else yr τ k) * (if τ.1 0 11 k < τ.1 0 0 22 then τ.1 0 11 k else τ.1 0 0 22)
section Plain
variable {σ τ : St} {U P Q T R L E : Nat}
theorem p_years (hs : ISc σ τ) (hq : IPe σ τ P Q T) {k : Nat} (hk : k < Q) : p_Firm_wholeYears σ k = some (yr τ k) := by
  unfold p_Firm_wholeYears yr
  rw [hs.1, (hq.2.2.2 k hk).2.2.2.1]
theorem m_years (hq : IPe σ τ P Q T) {k : Nat} (hk : k < Q) : m_wholeYears τ (nI k) = some (yr τ k) := by
  have hQ := hq.1
  unfold m_wholeYears yr
  rw [ix_nI (by omega) (by decide), obs]
theorem p_sev (hs : ISc σ τ) (hq : IPe σ τ P Q T) {k : Nat} (hk : k < Q) : p_Firm_severanceOf σ k = some (sev τ k) := by
  unfold p_Firm_severanceOf sev
  rw [p_years hs hq hk, obs, show ix 3 (2 : Int32) = some 2 from rfl, obs, hs.2.2.2.2.2.1, (hq.2.2.2 k hk).2.2.2.2.1]
  congr 2
  by_cases h1 : τ.1 0 0 22 < τ.1 0 11 k
  · rw [if_pos h1]
    rw [if_neg (fun h2 => by rw [i_lt] at h1 h2; omega)]
  · rw [if_neg h1]
    by_cases h2 : τ.1 0 11 k < τ.1 0 0 22
    · rw [if_pos h2]
    · rw [if_neg h2, i_eq]
      rw [i_lt] at h1 h2
      omega
theorem m_sev (hq : IPe σ τ P Q T) {k : Nat} (hk : k < Q) : m_severanceOf τ (nI k) = some (sev τ k) := by
  have hQ := hq.1
  unfold m_severanceOf sev
  simp only [m_years hq hk, obs, ix_nI (show k < 40 by omega) (show 40 < 2 ^ 31 by decide)]
  by_cases h1 : (30 : Int32) < yr τ k
  · simp only [if_pos h1, obs]
    by_cases h2 : τ.1 0 11 k < τ.1 0 0 22
    · simp only [if_pos h2, obs]
    · simp only [if_neg h2, obs]
  · simp only [if_neg h1, obs]
    by_cases h2 : τ.1 0 11 k < τ.1 0 0 22
    · simp only [if_pos h2, obs]
    · simp only [if_neg h2, obs]
end Plain
theorem s_severance : S_severance Inv := by
  intro σ τ N a1 hI
  obtain ⟨U, L, E, hs, hu, hp, hq, ht, hr, hl, he⟩ := id hI
  have hQ := hq.1
  simp only [p_PE_severance, m_severance, bind_pair]
  rcases in_or a1 (n := N 2) (by omega) with ⟨k, hk, rfl⟩ | ⟨hno, -⟩
  · rw [personAt_t hq hk, isPerson_t hq hk]
    simp only [obs, oes, if_neg (show ¬ (1 : Int32) = 0 by decide), p_sev hs hq hk, m_sev hq hk]
    exact ⟨_, _, _, rfl, rfl, hI⟩
  · rw [personAt_f hq hno, isPerson_f hq hno]
    simp only [obs, oen, if_true, p_r1, m_r1]
    exact ⟨_, _, _, rfl, rfl, inv_rf hI 1⟩
