/-! ===== set, ends, leaver, unit ===== -/
theorem out_lt {a : Int32} {n : Nat} (hn : n < 2 ^ 31) (h : ∀ k, k < n → a ≠ nI k) (h0 : ¬ a < 0) : nI n ≤ a := by
  rcases pk_ix a hn with h1 | h1 | ⟨j, hj, e⟩
  · exact absurd h1 h0
  · exact h1
  · exact absurd e (h j hj)
theorem s_set : S_set Inv := by
  intro σ τ N a1 a2 hI
  obtain ⟨U, L, E, hs, hu, hp, hq, ht, hr, hl, he⟩ := id hI
  obtain ⟨b1, b2, b3, b4, b5, b6, b7, b8, b9, b10⟩ := id hs
  simp only [p_PE_set, m_set, bind_pair, lt1_eq]
  rcases in_or a1 (n := 3) (by decide) with ⟨k, hk, rfl⟩ | ⟨hno, hout⟩
  · rw [inl_t 2 (c := 2) rfl (by omega) (by decide)]
    rcases (show k = 0 ∨ k = 1 ∨ k = 2 by omega) with rfl | rfl | rfl
    · simp only [obs, if_neg (show ¬ (1 : Int32) = 0 by decide), if_neg (show ¬ nI 0 < 0 by decide), if_neg (show ¬ (2 : Int32) < nI 0 by decide), ix_nI (show 0 < 3 by decide) (by decide), if_neg (show ¬ nI 0 = 2 by decide), if_pos (show nI 0 = 0 by rfl), if_neg (show ¬ nI 0 = 1 by decide), p_r4, m_r4, p_r6, m_r6, scon]
      by_cases h1 : a2 < 0
      · simp only [if_pos h1]
        exact ⟨_, _, _, rfl, rfl, inv_rf hI 4⟩
      · simp only [if_neg h1]
        by_cases h2 : (10 : Int32) < a2
        · simp only [if_pos h2]
          exact ⟨_, _, _, rfl, rfl, inv_rf hI 6⟩
        · simp only [if_neg h2, b4]
          exact ⟨_, _, _, rfl, rfl, U, L, E, ⟨b1, b2, b3, rfl, b5, b6, Rg.mk h1 h2 rfl rfl, b8, b9, b10⟩, hu, hp, hq, ht, hr, hl, he⟩
    · simp only [obs, if_neg (show ¬ (1 : Int32) = 0 by decide), if_neg (show ¬ nI 1 < 0 by decide), if_neg (show ¬ (2 : Int32) < nI 1 by decide), ix_nI (show 1 < 3 by decide) (by decide), if_neg (show ¬ nI 1 = 2 by decide), if_neg (show ¬ nI 1 = 0 by decide), if_pos (show nI 1 = 1 by rfl), p_r4, m_r4, p_r6, m_r6, scon]
      by_cases h1 : a2 < 0
      · simp only [if_pos h1]
        exact ⟨_, _, _, rfl, rfl, inv_rf hI 4⟩
      · simp only [if_neg h1]
        by_cases h2 : (5 : Int32) < a2
        · simp only [if_pos h2]
          exact ⟨_, _, _, rfl, rfl, inv_rf hI 6⟩
        · simp only [if_neg h2, b5]
          exact ⟨_, _, _, rfl, rfl, U, L, E, ⟨b1, b2, b3, b4, rfl, b6, b7, Rg.mk h1 h2 rfl rfl, b9, b10⟩, hu, hp, hq, ht, hr, hl, he⟩
    · simp only [obs, if_neg (show ¬ (1 : Int32) = 0 by decide), if_neg (show ¬ nI 2 < 0 by decide), if_neg (show ¬ (2 : Int32) < nI 2 by decide), ix_nI (show 2 < 3 by decide) (by decide), if_pos (show nI 2 = 2 by rfl), if_neg (show ¬ nI 2 = 0 by decide), if_neg (show ¬ nI 2 = 1 by decide), p_r4, m_r4, p_r6, m_r6, scon]
      by_cases h1 : a2 < 100
      · simp only [if_pos h1]
        exact ⟨_, _, _, rfl, rfl, inv_rf hI 4⟩
      · simp only [if_neg h1]
        by_cases h2 : (9999 : Int32) < a2
        · simp only [if_pos h2]
          exact ⟨_, _, _, rfl, rfl, inv_rf hI 6⟩
        · simp only [if_neg h2, b6]
          exact ⟨_, _, _, rfl, rfl, U, L, E, ⟨b1, b2, b3, b4, b5, rfl, b7, b8, Rg.mk h1 h2 rfl rfl, b10⟩, hu, hp, hq, ht, hr, hl, he⟩
  · rw [inl_f 2 (c := 2) rfl (by decide) (fun k hk => hno k (by omega))]
    simp only [obs, if_true, m_r2]
    by_cases h1 : a1 < 0
    · rw [if_pos h1, p_r2]
      exact ⟨_, _, _, rfl, rfl, inv_rf hI 2⟩
    · have h3 := out_lt (by decide) hno h1
      have h4 : (2 : Int32) < a1 := by
        rw [i_le] at h3
        rw [i_lt]
        have e1 : (nI 3).toInt = 3 := rfl
        have e2 : (2 : Int32).toInt = 2 := rfl
        omega
      rw [if_neg h1, if_pos h4, p_r2]
      exact ⟨_, _, _, rfl, rfl, inv_rf hI 2⟩
theorem isPlace_t {k : Nat} (h : k < 4) : p_PE_isPlace (nI k) = some 1 := by
  unfold p_PE_isPlace
  rw [if_neg (nI_pos (by omega)), if_pos (show nI k < 4 from nI_lt (b := 4) h (by decide))]
theorem isPlace_f {a : Int32} (h : ∀ k, k < 4 → a ≠ nI k) : p_PE_isPlace a = some 0 := by
  unfold p_PE_isPlace
  by_cases h1 : a < 0
  · rw [if_pos h1]
  · rw [if_neg h1, if_neg (show ¬ a < 4 from Int32.not_lt.mpr (out_lt (n := 4) (by decide) h h1))]
theorem s_ends : S_ends Inv := by
  intro σ τ N a1 a2 a3 hI
  obtain ⟨U, L, E, hs, hu, hp, hq, ht, hr, hl, he⟩ := id hI
  obtain ⟨hE, e1, e2, he4⟩ := id he
  simp only [p_PE_ends, m_ends, bind_pair, lt1_eq]
  rcases in_or a1 (n := 4) (by decide) with ⟨k, hk, rfl⟩ | ⟨hno, hout⟩
  · rw [isPlace_t hk, inl_t 3 (c := 3) rfl (by omega) (by decide)]
    simp only [obs, if_neg (show ¬ (1 : Int32) = 0 by decide), p_r4, m_r4, p_r6, m_r6]
    by_cases h1 : a2 < 0
    · simp only [if_pos h1]; exact ⟨_, _, _, rfl, rfl, inv_rf hI 4⟩
    by_cases h2 : a3 < 1
    · simp only [if_neg h1, if_pos h2]; exact ⟨_, _, _, rfl, rfl, inv_rf hI 4⟩
    by_cases h3 : (3000 : Int32) < a2
    · simp only [if_neg h1, if_neg h2, if_pos h3]; exact ⟨_, _, _, rfl, rfl, inv_rf hI 6⟩
    by_cases h4 : (500 : Int32) < a3
    · simp only [if_neg h1, if_neg h2, if_neg h3, if_pos h4]; exact ⟨_, _, _, rfl, rfl, inv_rf hI 6⟩
    simp only [if_neg h1, if_neg h2, if_neg h3, if_neg h4]
    by_cases h5 : E = 60
    · subst h5
      rw [if_neg (by rw [e2]; decide), if_pos (by rw [e1]; rfl)]
      exact ⟨_, _, _, rfl, rfl, inv_rf hI 6⟩
    · have hlt : E < 60 := by omega
      have g1 : nI E < (60 : Int32) := nI_lt (b := 60) hlt (by decide)
      have g2 : ¬ nI E = (60 : Int32) := fun e => h5 (nI_inj (by omega) (by decide) (b := 60) e)
      rw [if_pos (by rw [e2]; exact g1), if_neg (by rw [e1]; exact g2)]
      have ep : p_Endings_add σ (nI k) a2 a3 = some (nI (E + 1), sx (sx (sx (sx σ 0 33 E (nI k)) 0 34 E a2) 0 35 E a3) 0 7 3 (nI (E + 1))) := by
        simp [p_Endings_add, lt1_eq, sx_1, e2, g1, ix_nI hlt (show 60 < 2 ^ 31 by decide), nI_1]
      refine ⟨nI (E + 1), _, sx (sx (sx (sx τ 0 40 E (nI k)) 0 41 E a2) 0 42 E a3) 0 0 59 (nI (E + 1)), ep, ?_, U, L, E + 1, hs, hu, hp, hq, ht, hr, hl, ⟨by omega, ?_, ?_, fun i hi => ?_⟩⟩
      · simp [sx_1, e1, ix_nI hlt (show 60 < 2 ^ 31 by decide), nI_1]
      · simp [sx_1]
      · simp [sx_1]
      · by_cases e : i = E
        · subst e
          simp only [sx_1]
          simp
          exact ⟨⟨by rw [nI_toInt (by omega)]; omega, by rw [nI_toInt (by omega)]; omega⟩, Rg.mk h1 h3 rfl rfl, Rg.mk h2 h4 rfl rfl⟩
        · simp only [sx_1]
          simp [e]
          exact he4 i (by omega)
  · rw [isPlace_f hno, inl_f 3 (c := 3) rfl (by decide) (fun k hk => hno k (by omega))]
    simp only [obs, if_true, p_r1, m_r1]
    exact ⟨_, _, _, rfl, rfl, inv_rf hI 1⟩

