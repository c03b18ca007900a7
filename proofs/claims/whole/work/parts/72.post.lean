/-! ===== post, person ===== -/
def npC (σ : St) (P : Nat) (a1 a2 a3 a4 a5 : Int32) : St := sx (sy (sx (sx (sx (sx (sx (sx (sx (clr σ 1 P) 1 P 6 (-1)) 1 P 0 (nI P)) 1 P 1 a1) 1 P 2 a2) 1 P 3 a3) 1 P 4 a4) 1 P 5 a5) 0 10 P (some P)) 0 1 2 (nI (P + 1))
def npM (τ : St) (P : Nat) (a1 a2 a3 a4 a5 : Int32) : St := sx (sx (sx (sx (sx (sx (sx τ 0 3 P a1) 0 4 P a2) 0 5 P a3) 0 6 P a4) 0 7 P a5) 0 8 P (-1)) 0 0 4 (nI (P + 1))
theorem inv_post {σ τ : St} {U P Q T R L E : Nat} (h : InvB σ τ U P Q T R L E) {u : Nat} (hu' : u < U) {a2 a3 a4 a5 : Int32} (hP : P < 40) (g2 : Rg 0 7 a2) (g3 : Rg 1 9 a3) (g4 : Rg 1 40 a4) (g5 : Rg 0 1023 a5) : InvB (npC σ P (nI u) a2 a3 a4 a5) (npM τ P (nI u) a2 a3 a4 a5) U (P + 1) Q T R L E := by
  obtain ⟨hs, hu, hp, hq, ht, hr, hl, he⟩ := h
  have hQ := hq.1
  have c1 : ∀ j, j ≠ P → (npC σ P (nI u) a2 a3 a4 a5).1 1 j = σ.1 1 j := fun j hj => by funext i; simp [npC, clr, sx_1, sy_1, hj]
  have c2 : ∀ j, j ≠ P → (npC σ P (nI u) a2 a3 a4 a5).2 1 j = σ.2 1 j := fun j hj => by funext i; simp [npC, clr, sx_2, sy_2, hj]
  have hno : ∀ k, k < Q → τ.1 0 12 k ≠ nI P := by
    intro k hk e
    obtain ⟨-, -, -, -, -, -, -, -, -, -, -, -, -, -, a15, -⟩ := hq.2.2.2 k hk
    rcases a15 with ⟨-, c⟩ | ⟨p', d1, d2, d3, -⟩
    · rw [c] at e; exact nI_m1 (k := P) (by omega) e.symm
    · rw [d3] at e
      have := nI_inj (by omega) (by omega) e
      omega
  refine ⟨hs, hu, ⟨by omega, rfl, rfl, fun p hpp => ?_⟩, ⟨hq.1, hq.2.1, hq.2.2.1, fun k hk => ?_⟩, ht, hr, hl, he⟩
  · by_cases e : p = P
    · subst e
      refine ⟨by simp [npC, sx_2, sy_2], by simp [npC, sx_1, sy_1], ⟨u, hu', by simp [npM, sx_1], by simp [npC, sx_1, sy_1]⟩, by simp [npC, npM, sx_1, sy_1], by simp [npC, npM, sx_1, sy_1], by simp [npC, npM, sx_1, sy_1], by simp [npC, npM, sx_1, sy_1], by simp [npC, npM, sx_1, sy_1], by simpa [npM, sx_1] using g2, by simpa [npM, sx_1] using g3, by simpa [npM, sx_1] using g4, by simpa [npM, sx_1] using g5, ?_, ?_, ?_⟩
      · have : (npM τ p (nI u) a2 a3 a4 a5).1 0 8 p = -1 := by simp [npM, sx_1]
        rw [this]
        refine ⟨by decide, ?_⟩
        have h0 : 0 ≤ (τ.1 0 0 0).toInt := hs.2.1.1
        have e1 : (-1 : Int32).toInt = -1 := rfl
        show (-1 : Int32).toInt ≤ (τ.1 0 0 0).toInt
        omega
      · intro k hk
        have : (npC σ p (nI u) a2 a3 a4 a5).2 1 p 7 = none := by simp [npC, sx_2, sy_2, clr]
        rw [this] at hk; cases hk
      · intro _ k hk
        exact hno k hk
    · obtain ⟨b1, b2, b3, b4, b5, b6, b7, b8, b9, b10, b11, b12, b13, b14⟩ := hp.2.2.2 p (by omega)
      unfold IPo1
      rw [c1 p e, c2 p e]
      refine ⟨by simpa [npC, sx_2, sy_2, clr, e] using b1, b2, by simpa [npM, sx_1, e] using b3, by simpa [npM, sx_1, e] using b4, by simpa [npM, sx_1, e] using b5, by simpa [npM, sx_1, e] using b6, by simpa [npM, sx_1, e] using b7, by simpa [npM, sx_1, e] using b8, by simpa [npM, sx_1, e] using b9, by simpa [npM, sx_1, e] using b10, by simpa [npM, sx_1, e] using b11, by simpa [npM, sx_1, e] using b12, by simpa [npM, sx_1, e] using b13, b14⟩
  · obtain ⟨b1, b2, b3, b4, b5, b6, b7, b8, b9, b10, b11, b12, b13, b14, b15, b16, b17⟩ := hq.2.2.2 k hk
    refine ⟨b1, b2, b3, b4, b5, b6, b7, b8, b9, b10, b11, b12, b13, b14, ?_, ⟨fun hn => ?_, b16.2⟩, b17⟩
    · rcases b15 with c | ⟨p, d1, d2, d3, d4, d5, d6⟩
      · exact Or.inl c
      · have e : p ≠ P := by omega
        exact Or.inr ⟨p, by omega, d2, d3, by simpa [npM, sx_1, e] using d4, by rw [c2 p e]; exact d5, d6⟩
    · rcases b16.1 hn with c | ⟨p, d1, d2, d3⟩
      · exact Or.inl c
      · exact Or.inr ⟨p, by omega, d2, d3⟩
theorem s_post : S_post Inv := by
  intro σ τ N a1 a2 a3 a4 a5 hI
  obtain ⟨U, L, E, h⟩ := id hI
  obtain ⟨hs, hu, hp, hq, ht, hr, hl, he⟩ := id h
  have hP := hp.1
  have hU := hu.1
  have rf : ∀ c, Inv (rfC σ c) (rfM τ c) (nup N 1 (N 1)) := fun c => by rw [nup_same]; exact inv_rf hI c
  simp only [p_PE_post, m_post, bind_pair, lt1_eq, p_r1, m_r1, p_r4, m_r4, p_r6, m_r6, obs]
  rcases in_or a1 (n := U) (by omega) with ⟨u, hu', rfl⟩ | ⟨hno, hout⟩
  · rw [p_isUnit_t hu hu', m_isUnit_t hu hu']
    simp only [obs, if_neg (show ¬ (1 : Int32) = 0 by decide)]
    by_cases h1 : a2 < 0
    · simp only [if_pos h1]; exact ⟨_, _, _, _, rfl, rfl, rf 4⟩
    by_cases h2 : a3 < 1
    · simp only [if_neg h1, if_pos h2]; exact ⟨_, _, _, _, rfl, rfl, rf 4⟩
    by_cases h3 : a4 < 1
    · simp only [if_neg h1, if_neg h2, if_pos h3]; exact ⟨_, _, _, _, rfl, rfl, rf 4⟩
    by_cases h4 : a5 < 0
    · simp only [if_neg h1, if_neg h2, if_neg h3, if_pos h4]; exact ⟨_, _, _, _, rfl, rfl, rf 4⟩
    by_cases h5 : (7 : Int32) < a2
    · simp only [if_neg h1, if_neg h2, if_neg h3, if_neg h4, if_pos h5]; exact ⟨_, _, _, _, rfl, rfl, rf 6⟩
    by_cases h6 : (9 : Int32) < a3
    · simp only [if_neg h1, if_neg h2, if_neg h3, if_neg h4, if_neg h5, if_pos h6]; exact ⟨_, _, _, _, rfl, rfl, rf 6⟩
    by_cases h7 : (40 : Int32) < a4
    · simp only [if_neg h1, if_neg h2, if_neg h3, if_neg h4, if_neg h5, if_neg h6, if_pos h7]; exact ⟨_, _, _, _, rfl, rfl, rf 6⟩
    by_cases h8 : (1023 : Int32) < a5
    · simp only [if_neg h1, if_neg h2, if_neg h3, if_neg h4, if_neg h5, if_neg h6, if_neg h7, if_pos h8]; exact ⟨_, _, _, _, rfl, rfl, rf 6⟩
    simp only [if_neg h1, if_neg h2, if_neg h3, if_neg h4, if_neg h5, if_neg h6, if_neg h7, if_neg h8, hp.2.1, hp.2.2.1]
    by_cases h9 : N 1 = 40
    · rw [h9, if_neg (show ¬ nI 40 < 40 by decide), if_pos (show nI 40 = 40 from rfl)]
      exact ⟨_, _, _, _, rfl, rfl, by rw [← h9]; exact rf 6⟩
    have hlt : N 1 < 40 := by omega
    have g1 : nI (N 1) < (40 : Int32) := nI_lt (b := 40) hlt (by decide)
    have g2 : ¬ nI (N 1) = (40 : Int32) := fun e => h9 (nI_inj (by omega) (by decide) (b := 40) e)
    rw [if_pos g1, if_neg g2]
    have ec : (clr σ 1 (N 1)).1 0 1 2 = nI (N 1) := hp.2.2.1
    have ep : ((p_Post_init (clr σ 1 (N 1)) (N 1) ((clr σ 1 (N 1)).1 0 1 2) (nI u) a2 a3 a4 a5).bind fun r18 => (p_Firm_addPost r18 (N 1)).bind fun r20 => some ((r20.1, r20.2), N 1 + 1)) = some ((nI (N 1), npC σ (N 1) (nI u) a2 a3 a4 a5), N 1 + 1) := by
      rw [ec]
      simp only [p_Post_init, lt1_eq, obs, p_Firm_addPost]
      have e2 : (sx (sx (sx (sx (sx (sx (sx (clr σ 1 (N 1)) 1 (N 1) 6 (-1)) 1 (N 1) 0 (nI (N 1))) 1 (N 1) 1 (nI u)) 1 (N 1) 2 a2) 1 (N 1) 3 a3) 1 (N 1) 4 a4) 1 (N 1) 5 a5).1 0 1 2 = nI (N 1) := hp.2.2.1
      rw [e2, if_pos g1, ix_nI hlt (show 40 < 2 ^ 31 by decide)]
      simp only [obs, sy_1, e2, nI_1, npC]
    refine ⟨_, _, npM τ (N 1) (nI u) a2 a3 a4 a5, _, ep, ?_, U, L, E, ?_⟩
    · simp [ix_nI hlt (show 40 < 2 ^ 31 by decide), sx_1, hp.2.1, nI_1, nI_pred, npM]
    · exact inv_post h hu' hlt (Rg.mk h1 h5 rfl rfl) (Rg.mk h2 h6 rfl rfl) (Rg.mk h3 h7 rfl rfl) (Rg.mk h4 h8 rfl rfl)
  · rw [p_isUnit_f hu hno, m_isUnit_f hu hno]
    simp only [obs, if_true]
    exact ⟨_, _, _, _, rfl, rfl, rf 1⟩
