/-! ===== ends within ninety days, notice ===== -/
def wsum (τ : St) (pl dy : Int32) : Nat → Int32
  | 0 => 0
  | n + 1 => wsum τ pl dy n + (if τ.1 0 40 n = pl ∧ dy - 89 ≤ τ.1 0 41 n ∧ τ.1 0 41 n ≤ dy then τ.1 0 42 n else 0)
set_option maxHeartbeats 400000 in
theorem m_endedBy_eq {σ τ : St} {E : Nat} (he : IEn σ τ E) (pl dy : Int32) : m_endedBy τ pl dy = some (wsum τ pl dy E) := by
  have hE := he.1
  unfold m_endedBy
  have hF : 999999 < FU := by decide
  generalize FU = F at hF ⊢
  have hrun := itr_run (f := fun s1 : Int32 × Int32 => (if s1.2 < τ.1 0 0 59 then (Option.bind (ix 60 s1.2) fun i9 => (Option.bind (α := Int32) ((if τ.1 0 40 i9 = pl then (Option.bind (ix 60 s1.2) fun i13 => (Option.bind (m_in (τ.1 0 41 i13) (dy - (89 : Int32)) dy) fun r14 => (if r14 = 0 then some (0 : Int32) else (Option.bind (ix 60 s1.2) fun i16 => some (τ.1 0 42 i16))))) else some (0 : Int32))) fun t10 => some (Sum.inl (s1.1 + t10, s1.2 + (1 : Int32))))) else some (Sum.inr s1.1))) E (fun i => (wsum τ pl dy i, nI i)) (wsum τ pl dy E) (fun i hi => ?_) ?_ F 0 (Nat.zero_le _) (by omega)
  · have h2 : ((0 : Int32), (0 : Int32)) = (wsum τ pl dy 0, nI 0) := rfl
    rw [h2, hrun]
    rfl
  · simp only
    rw [he.2.1, if_pos (nI_lt hi (by omega)), nI_1, ix_nI (by omega) (by decide)]
    simp only [obs, m_in_eq, bI_eq0, wsum]
    by_cases h1 : τ.1 0 40 i = pl
    · by_cases h2 : dy - 89 ≤ τ.1 0 41 i ∧ τ.1 0 41 i ≤ dy
      · simp [h1, h2]
      · simp [h1, h2]
    · simp [h1]
  · simp only
    rw [he.2.1, if_neg (nI_nlt (Nat.le_refl _) (by omega))]
/-- the class says the two bounds otherwise -/
theorem within_iff {d dy : Int32} (h1 : Rg 0 3000 d) (h2 : Rg 0 4000 dy) : (¬ dy < d ∧ dy - 90 < d) ↔ (dy - 89 ≤ d ∧ d ≤ dy) := by
  have e1 : (dy - 90).toInt = dy.toInt - 90 := by
    rw [Int32.toInt_sub, show (90 : Int32).toInt = 90 from rfl, Int.bmod_eq_of_le (by have := h2.1; omega) (by have := h2.2; omega)]
  have e2 : (dy - 89).toInt = dy.toInt - 89 := by
    rw [Int32.toInt_sub, show (89 : Int32).toInt = 89 from rfl, Int.bmod_eq_of_le (by have := h2.1; omega) (by have := h2.2; omega)]
  rw [i_lt, i_lt, i_le, i_le, e1, e2]
  omega
set_option maxHeartbeats 400000 in
theorem p_within_eq {σ τ : St} {E : Nat} (he : IEn σ τ E) (pl : Int32) {dy : Int32} (hdy : Rg 0 4000 dy) : p_Endings_within σ pl dy = some (wsum τ pl dy E) := by
  have hE := he.1
  unfold p_Endings_within
  have hF : 999999 < FU := by decide
  generalize FU = F at hF ⊢
  have hrun := itr_run (f := fun s1 : Int32 × Int32 => (if s1.2 < σ.1 0 7 3 then (if s1.2 < (60 : Int32) then (Option.bind (ix 60 s1.2) fun i9 => (Option.bind (α := Int32) ((if σ.1 0 33 i9 = pl then (Option.bind (ix 60 s1.2) fun i13 => (if dy < σ.1 0 34 i13 then some s1.1 else (Option.bind (ix 60 s1.2) fun i14 => (if dy - (90 : Int32) < σ.1 0 34 i14 then (Option.bind (ix 60 s1.2) fun i15 => some (s1.1 + (σ.1 0 35 i15))) else some s1.1)))) else some s1.1)) fun t10 => some (Sum.inl (t10, s1.2 + (1 : Int32))))) else some (Sum.inr s1.1)) else some (Sum.inr s1.1))) E (fun i => (wsum τ pl dy i, nI i)) (wsum τ pl dy E) (fun i hi => ?_) ?_ F 0 (Nat.zero_le _) (by omega)
  · have h2 : ((0 : Int32), (0 : Int32)) = (wsum τ pl dy 0, nI 0) := rfl
    rw [h2, hrun]
    rfl
  · obtain ⟨g1, g2, g3, g4, g5, g6⟩ := he.2.2.2 i hi
    simp only
    rw [he.2.2.1, if_pos (nI_lt hi (by omega)), if_pos (show nI i < 60 from nI_lt (b := 60) (by omega) (by decide)), nI_1, ix_nI (by omega) (by decide)]
    simp only [obs, g1, g2, g3, wsum]
    have hw := within_iff g5 hdy
    by_cases h1 : τ.1 0 40 i = pl
    · by_cases h2 : dy < τ.1 0 41 i
      · have h3 : ¬ (dy - 89 ≤ τ.1 0 41 i ∧ τ.1 0 41 i ≤ dy) := fun h => (hw.mpr h).1 h2
        simp [h1, h2, h3]
      · by_cases h4 : dy - 90 < τ.1 0 41 i
        · have h3 := hw.mp ⟨h2, h4⟩
          simp [h1, h2, h4, h3]
        · have h3 : ¬ (dy - 89 ≤ τ.1 0 41 i ∧ τ.1 0 41 i ≤ dy) := fun h => h4 (hw.mpr h).2
          simp [h1, h2, h4, h3]
    · simp [h1]
  · simp only
    rw [he.2.2.1, if_neg (nI_nlt (Nat.le_refl _) (by omega))]
/-- the band of a number of ends; the notice of it -/
def band (n : Int32) : Int32 := if n < 20 then 0 else if n < 100 then 1 else 2
theorem p_band_eq (n : Int32) : p_PE_bandOf n = some (band n) := by
  unfold p_PE_bandOf
  have hF : 999999 < FU := by decide
  generalize FU = F at hF ⊢
  obtain ⟨G, rfl⟩ : ∃ G, F = G + 4 := ⟨F - 4, by omega⟩
  simp only [itr0, band]
  by_cases h1 : n < 20
  · have h2 : n < 100 := by rw [i_lt] at h1 ⊢; have e1 : (20 : Int32).toInt = 20 := rfl; have e2 : (100 : Int32).toInt = 100 := rfl; omega
    simp [ix, scon, h1, h2]
  · by_cases h2 : n < 100
    · simp [ix, scon, h1, h2]
    · simp [ix, scon, h1, h2]
theorem p_noticeOf_eq (n : Int32) : (p_PE_noticeOf (band n)) = m_noticeBy n := by
  unfold p_PE_noticeOf m_noticeBy band
  by_cases h1 : n < 20
  · have h2 : n < 100 := by rw [i_lt] at h1 ⊢; have e1 : (20 : Int32).toInt = 20 := rfl; have e2 : (100 : Int32).toInt = 100 := rfl; omega
    simp [ix, scon, h1, h2]
  · by_cases h2 : n < 100
    · simp [ix, scon, h1, h2]
    · simp [ix, scon, h1, h2]
theorem m_noticeBy_some (n : Int32) : ∃ v, m_noticeBy n = some v := by
  unfold m_noticeBy
  by_cases h1 : n < 100
  · rw [if_pos h1]; split <;> exact ⟨_, rfl⟩
  · rw [if_neg h1]; exact ⟨_, rfl⟩
theorem s_notice : S_notice Inv := by
  intro σ τ N a1 a2 hI
  obtain ⟨U, L, E, hs, hu, hp, hq, ht, hr, hl, he⟩ := id hI
  simp only [p_PE_notice, m_notice, bind_pair]
  rcases in_or a1 (n := 4) (by decide) with ⟨k, hk, rfl⟩ | ⟨hno, hout⟩
  · rw [isPlace_t hk, inl_t 3 (c := 3) rfl (by omega) (by decide)]
    simp only [obs, if_neg (show ¬ (1 : Int32) = 0 by decide), p_r4, m_r4, p_r6, m_r6]
    by_cases h1 : a2 < 0
    · simp only [if_pos h1]; exact ⟨_, _, _, rfl, rfl, inv_rf hI 4⟩
    by_cases h3 : (3000 : Int32) < a2
    · simp only [if_neg h1, if_pos h3]; exact ⟨_, _, _, rfl, rfl, inv_rf hI 6⟩
    simp only [if_neg h1, if_neg h3]
    have hd : Rg 0 4000 a2 := (Rg.mk h1 h3 rfl rfl : Rg 0 3000 a2).mono (by decide)
    rw [p_within_eq he (nI k) hd, m_endedBy_eq he]
    simp only [obs, p_band_eq, p_noticeOf_eq]
    obtain ⟨v, hv⟩ := m_noticeBy_some (wsum τ (nI k) a2 E)
    rw [hv]
    exact ⟨_, _, _, rfl, rfl, hI⟩
  · rw [isPlace_f hno, inl_f 3 (c := 3) rfl (by decide) (fun k hk => hno k (by omega))]
    simp only [obs, if_true, p_r1, m_r1]
    exact ⟨_, _, _, rfl, rfl, inv_rf hI 1⟩
