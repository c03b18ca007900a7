/-! ===== end, leave, move ===== -/
theorem hdM_ended (τ : St) (p k : Nat) (v w : Int32) : hdM (sx τ 0 8 p w) k v = sx (hdM τ k v) 0 8 p w := by
  refine Prod.ext ?_ rfl
  funext d j i
  unfold hdM
  simp only [sx_1]
  by_cases h1 : d = 0 ∧ j = 12 ∧ i = k
  · simp [h1]
  · by_cases h2 : d = 0 ∧ j = 13 ∧ i = k
    · simp [h2]
    · simp [h1, h2]
theorem s_end : S_end Inv := by
  intro σ τ N a1 hI
  obtain ⟨U, L, E, h⟩ := id hI
  obtain ⟨hs, hu, hp, hq, ht, hr, hl, he⟩ := id h
  have hP := hp.1
  have hQ := hq.1
  simp only [p_PE_end, m_end, bind_pair, lt1_eq]
  rcases in_or a1 (n := N 1) (by omega) with ⟨k, hk, rfl⟩ | ⟨hno, -⟩
  · rw [postAt_t hp hk, isPost_t hp hk]
    simp only [obs, oes, if_neg (show ¬ (1 : Int32) = 0 by decide), ix_nI (show k < 40 by omega) (show 40 < 2 ^ 31 by decide), p_open_eq hp hk, bI_eq0]
    by_cases h0 : τ.1 0 8 k < 0
    · simp only [h0, not_true, if_false, if_true]
      rw [show m_holder (sx τ 0 8 k (τ.1 0 0 0)) (nI k) = m_holder τ (nI k) from rfl, m_holder_eq hp hq hk]
      unfold p_Post_finish
      cases hc : σ.2 1 k 7 with
      | none =>
        simp only [obs, lt1_eq, oen, oI_none, if_pos (show (-1 : Int32) < 0 by decide), hs.1]
        exact ⟨_, _, _, rfl, rfl, U, L, E, inv_ended h hc⟩
      | some j =>
        have hj := (hp.2.2.2 k hk).2.2.2.2.2.2.2.2.2.2.2.2.2.1 j hc
        simp only [obs, lt1_eq, oes, oI_some, if_neg (nI_pos (show j < 2 ^ 31 by omega)), p_hold_eq, m_drop_eq _ (show j < 40 by omega), hdM_ended]
        refine ⟨_, _, _, rfl, rfl, U, L, E, ?_⟩
        have hh : τ.1 0 14 j < 0 := by
          obtain ⟨-, -, -, -, -, -, -, -, -, -, -, -, -, -, a15, -⟩ := hq.2.2.2 j hj.1
          rcases a15 with ⟨-, c⟩ | ⟨-, -, -, -, -, -, c⟩
          · rw [hj.2] at c; exact absurd c (nI_m1 (by omega))
          · exact c
        have hx := inv_hold h hj.1 hh (np := none) (fun p e => by cases e)
        rw [oI_none] at hx
        have hy := inv_ended (p := k) hx (by
          rw [hdC_7, if_neg (by simp)]
          obtain ⟨-, -, -, -, -, -, -, -, -, -, -, -, -, -, a15, -⟩ := hq.2.2.2 j hj.1
          rcases a15 with ⟨-, c⟩ | ⟨p', c1, c2, c3, c4, c5, c6⟩
          · rw [hj.2] at c; exact absurd c (nI_m1 (by omega))
          · rw [hj.2] at c3
            have := nI_inj (by omega) (by omega) c3
            subst this
            rw [if_pos c2])
        rw [hs.1]
        exact hy
    · simp only [h0, not_false_iff, if_true, if_false, p_r3, m_r3]
      exact ⟨_, _, _, rfl, rfl, inv_rf hI 3⟩
  · rw [postAt_f hp hno, isPost_f hp hno]
    simp only [obs, oen, if_true, p_r1, m_r1]
    exact ⟨_, _, _, rfl, rfl, inv_rf hI 1⟩
/-- one who holds nothing has left -/
theorem inv_left {σ τ : St} {U P Q T R L E : Nat} (h : InvB σ τ U P Q T R L E) {k : Nat} (hno : σ.2 2 k 4 = none) : InvB (sx σ 2 k 6 (τ.1 0 0 0)) (sx τ 0 14 k (τ.1 0 0 0)) U P Q T R L E := by
  obtain ⟨hs, hu, hp, hq, ht, hr, hl, he⟩ := h
  refine ⟨hs, hu, hp, ⟨hq.1, hq.2.1, hq.2.2.1, fun j hj => ?_⟩, ht, hr, hl, he⟩
  obtain ⟨a1, a2, a3, a4, a5, a6, a7, a8, a9, a10, a11, a12, a13, a14, a15, a16⟩ := hq.2.2.2 j hj
  by_cases e : j = k
  · subst e
    refine ⟨a1, (by simpa [sx_1, sx_2] using a2), (by simpa [sx_1, sx_2] using a3), (by simpa [sx_1, sx_2] using a4), (by simpa [sx_1, sx_2] using a5), (by simp [sx_1]), (by simpa [sx_1, sx_2] using a7), (by simpa [sx_1, sx_2] using a8), a9, a10, a11, ?_, a13, a14, ?_, a16⟩
    · have : (sx τ 0 14 j (τ.1 0 0 0)).1 0 14 j = τ.1 0 0 0 := by simp [sx_1]
      rw [this]
      exact ⟨Int.le_trans (by decide) hs.2.1.1, Int.le_refl _⟩
    · rcases a15 with c | ⟨q, c1, c2, -⟩
      · exact Or.inl c
      · rw [hno] at c2; cases c2
  · refine ⟨a1, (by simpa [sx_1, sx_2] using a2), (by simpa [sx_1, sx_2] using a3), (by simpa [sx_1, sx_2] using a4), (by simpa [sx_1, sx_2] using a5), (by simpa [sx_1, e] using a6), (by simpa [sx_1, sx_2] using a7), (by simpa [sx_1, sx_2] using a8), a9, a10, a11, ?_, a13, a14, ?_, a16⟩
    · simpa [sx_1, e] using a12
    · rcases a15 with c | ⟨q, c1, c2, c3, c4, c5, c6⟩
      · exact Or.inl c
      · exact Or.inr ⟨q, c1, c2, c3, c4, c5, by simpa [sx_1, e] using c6⟩
theorem s_leave : S_leave Inv := by
  intro σ τ N a1 hI
  obtain ⟨U, L, E, h⟩ := id hI
  obtain ⟨hs, hu, hp, hq, ht, hr, hl, he⟩ := id h
  have hQ := hq.1
  simp only [p_PE_leave, m_leave, bind_pair, lt1_eq]
  rcases in_or a1 (n := N 2) (by omega) with ⟨k, hk, rfl⟩ | ⟨hno, -⟩
  · rw [personAt_t hq hk, isPerson_t hq hk]
    simp only [obs, oes, if_neg (show ¬ (1 : Int32) = 0 by decide), ix_nI (show k < 40 by omega) (show 40 < 2 ^ 31 by decide), (isHere_eq hq hk).1, (isHere_eq hq hk).2, bI_eq0, p_hold_eq, m_drop_eq _ (show k < 40 by omega), p_r3, m_r3]
    by_cases h0 : τ.1 0 14 k < 0
    · simp only [h0, not_true, if_false]
      have hx := inv_hold h hk h0 (np := none) (fun p e => by cases e)
      rw [oI_none] at hx
      have hy := inv_left (k := k) hx (hdC_4 σ k none)
      rw [hdC_1, hs.1]
      exact ⟨_, _, _, rfl, rfl, U, L, E, hy⟩
    · simp only [h0, not_false_iff, if_true]
      exact ⟨_, _, _, rfl, rfl, inv_rf hI 3⟩
  · rw [personAt_f hq hno, isPerson_f hq hno]
    simp only [obs, oen, if_true, p_r1, m_r1]
    exact ⟨_, _, _, rfl, rfl, inv_rf hI 1⟩
theorem postAt_m1 {σ : St} : p_Firm_postAt σ (-1) = some none := rfl
theorem s_move : S_move Inv := by
  intro σ τ N a1 a2 hI
  obtain ⟨U, L, E, h⟩ := id hI
  obtain ⟨hs, hu, hp, hq, ht, hr, hl, he⟩ := id h
  have hP := hp.1
  have hQ := hq.1
  simp only [p_PE_move, m_move, bind_pair, lt1_eq]
  rcases in_or a1 (n := N 2) (by omega) with ⟨k, hk, rfl⟩ | ⟨hno, -⟩
  · rw [personAt_t hq hk, isPerson_t hq hk]
    simp only [obs, oes, if_neg (show ¬ (1 : Int32) = 0 by decide), ix_nI (show k < 40 by omega) (show 40 < 2 ^ 31 by decide), (isHere_eq hq hk).1, (isHere_eq hq hk).2, bI_eq0, p_hold_eq, m_drop_eq _ (show k < 40 by omega), p_f3, m_f3, p_f1, m_f1, hdM_sx, hdC_1]
    obtain ⟨-, -, -, -, -, -, -, -, -, -, -, -, -, -, a15, -⟩ := hq.2.2.2 k hk
    have hwas : Option.elim (σ.2 2 k 4) (-1 : Int32) (fun q => σ.1 1 q 0) = τ.1 0 12 k := by
      rcases a15 with ⟨c1, c2⟩ | ⟨p', c1, c2, c3, -⟩
      · rw [c1, c2]; rfl
      · rw [c2, c3]; exact (hp.2.2.2 p' c1).2.1
    have hel : ∀ (x : St), (Option.elim (σ.2 2 k 4) (some ((-1 : Int32), x)) fun q => some (σ.1 1 q 0, x)) = some (τ.1 0 12 k, x) := by
      intro x
      rw [← hwas]
      cases σ.2 2 k 4 <;> rfl
    simp only [hel]
    by_cases h1 : a2 = -1
    · subst h1
      simp only [if_true, postAt_m1, obs, oen, if_pos (show (-1 : Int32) < 0 by decide)]
      by_cases h0 : τ.1 0 14 k < 0
      · simp only [h0, not_true, if_false]
        exact ⟨_, _, _, rfl, rfl, U, L, E, inv_hold h hk h0 (np := none) (fun p e => by cases e)⟩
      · simp only [h0, not_false_iff, if_true]
        exact ⟨_, _, _, rfl, rfl, inv_rf hI 3⟩
    · simp only [if_neg h1]
      rcases in_or a2 (n := N 1) (by omega) with ⟨p, hpp, rfl⟩ | ⟨hno, -⟩
      · rw [postAt_t hp hpp, isPost_t hp hpp]
        simp only [obs, oes, if_neg (show ¬ (1 : Int32) = 0 by decide), if_neg (nI_pos (show p < 2 ^ 31 by omega))]
        by_cases h0 : τ.1 0 14 k < 0
        · simp only [h0, not_true, if_false]
          obtain ⟨b, hb, hb1, hb2⟩ := vac_eq hp hq hpp
          simp only [hb2, obs]
          unfold p_Post_mayBeHeldBy
          rw [p_open_eq hp hpp]
          simp only [obs, lt1_eq, bI_eq0]
          obtain ⟨-, -, -, -, -, -, -, -, -, -, -, -, -, p14, p15⟩ := hp.2.2.2 p hpp
          by_cases h2 : τ.1 0 12 k = nI p
          · rcases a15 with ⟨c1, c2⟩ | ⟨p', c1, c2, c3, c4, c5, c6⟩
            · rw [c2] at h2; exact absurd h2.symm (nI_m1 (by omega))
            · rw [h2] at c3
              have := nI_inj (by omega) (by omega) c3
              subst this
              simp only [h2, if_true, c4, not_true, if_false, c5, oes, obs, if_neg (show ¬ (1 : Int32) = 0 by decide)]
              exact ⟨_, _, _, rfl, rfl, U, L, E, inv_hold h hk h0 (np := some p) (fun q e => by cases e; exact ⟨hpp, c4, fun j hj => by rw [c5] at hj; exact (Option.some.inj hj).symm⟩)⟩
          · simp only [if_neg h2]
            by_cases h3 : vac σ τ p
            · have hbt := hb.mpr h3
              subst hbt
              simp only [h3.1, h3.2, not_true, if_false, oen, obs, if_true, if_neg (show ¬ (1 : Int32) = 0 by decide)]
              exact ⟨_, _, _, rfl, rfl, U, L, E, inv_hold h hk h0 (np := some p) (fun q e => by cases e; exact ⟨hpp, h3.1, fun j hj => by rw [h3.2] at hj; cases hj⟩)⟩
            · have hbt : b = false := by
                cases b
                · rfl
                · exact absurd (hb.mp rfl) h3
              subst hbt
              simp only [Bool.false_eq_true, if_false, if_true]
              by_cases h4 : τ.1 0 8 p < 0
              · simp only [h4, not_true, if_false]
                cases hc : σ.2 1 p 7 with
                | none => exact absurd ⟨h4, hc⟩ h3
                | some j =>
                  simp only [oes]
                  have hne : ¬ (some j : Option Nat) = some k := fun e => h2 (by rw [← (p14 j hc).2, Option.some.inj e])
                  simp only [if_neg hne, obs, if_true]
                  exact ⟨_, _, _, rfl, rfl, inv_rf hI 3⟩
              · simp only [h4, not_false_iff, if_true, obs]
                exact ⟨_, _, _, rfl, rfl, inv_rf hI 3⟩
        · simp only [h0, not_false_iff, if_true]
          exact ⟨_, _, _, rfl, rfl, inv_rf hI 3⟩
      · rw [postAt_f hp hno, isPost_f hp hno]
        simp only [obs, oen, if_true]
        exact ⟨_, _, _, rfl, rfl, inv_rf hI 1⟩
  · rw [personAt_f hq hno, isPerson_f hq hno]
    obtain ⟨x, hx⟩ : ∃ x, p_Firm_postAt σ a2 = some x := by
      rcases in_or a2 (n := N 1) (by omega) with ⟨p, hpp, rfl⟩ | ⟨hno, -⟩
      · exact ⟨_, postAt_t hp hpp⟩
      · exact ⟨_, postAt_f hp hno⟩
    rw [hx]
    simp only [obs, oen, if_true, p_f1, m_f1]
    exact ⟨_, _, _, rfl, rfl, inv_rf hI 1⟩
