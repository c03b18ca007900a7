/-! ===== unit, post ===== -/
theorem s_unit : S_unit Inv := by
  intro σ τ N a1 a2 hI
  obtain ⟨U, L, E, h⟩ := id hI
  obtain ⟨hs, hu, hp, hq, ht, hr, hl, he⟩ := id h
  have hU := hu.1
  simp only [p_PE_unit, m_unit, bind_pair, lt1_eq, p_r1, m_r1, p_r4, m_r4, p_r6, m_r6, obs]
  -- what happens where the unit above is right
  have main : ∀ (t : Int32), (∃ r4, p_Firm_isUnit σ a2 = some r4 ∧ ((r4 = 0 ∧ t = 0 ∧ a2 = -1) ∨ (r4 = 1 ∧ ∃ a, a < U ∧ a2 = nI a ∧ t = σ.1 0 9 a))) → 
      ∃ (r : Int32) (σ' τ' : St), (if a1 < 0 then some ((-4 : Int32), rfC σ 4) else if a1 < 4 then if σ.1 0 1 1 < 12 then p_Firm_addUnit σ a2 else some ((-6 : Int32), rfC σ 6) else some ((-6 : Int32), rfC σ 6)) = some (r, σ') ∧
        (if a1 < 0 then some ((-4 : Int32), rfM τ 4) else if (3 : Int32) < a1 then some ((-6 : Int32), rfM τ 6) else if τ.1 0 0 1 = 12 then some ((-6 : Int32), rfM τ 6) else (ix 12 (τ.1 0 0 1)).bind fun i5 => (ix 12 ((sx τ 0 1 i5 a1).1 0 0 1)).bind fun i7 => some ((sx (sx (sx τ 0 1 i5 a1) 0 2 i7 a2) 0 0 1 ((sx (sx τ 0 1 i5 a1) 0 2 i7 a2).1 0 0 1 + 1)).1 0 0 1 - 1, sx (sx (sx τ 0 1 i5 a1) 0 2 i7 a2) 0 0 1 ((sx (sx τ 0 1 i5 a1) 0 2 i7 a2).1 0 0 1 + 1))) = some (r, τ') ∧ Inv σ' τ' N := by
    intro t ht'
    by_cases h1 : a1 < 0
    · simp only [if_pos h1]; exact ⟨_, _, _, rfl, rfl, inv_rf hI 4⟩
    by_cases h2 : (3 : Int32) < a1
    · have h2' : ¬ a1 < 4 := by
        rw [i_lt] at h2 ⊢
        have e1 : (3 : Int32).toInt = 3 := rfl
        have e2 : (4 : Int32).toInt = 4 := rfl
        omega
      simp only [if_neg h1, if_pos h2, if_neg h2']; exact ⟨_, _, _, rfl, rfl, inv_rf hI 6⟩
    have h2' : a1 < 4 := by
      rw [i_lt] at h2 ⊢
      have e1 : (3 : Int32).toInt = 3 := rfl
      have e2 : (4 : Int32).toInt = 4 := rfl
      omega
    simp only [if_neg h1, if_neg h2, if_pos h2', hu.2.1, hu.2.2.1]
    by_cases h3 : U = 12
    · subst h3
      rw [if_neg (by decide), if_pos (show nI 12 = 12 from rfl)]
      exact ⟨_, _, _, rfl, rfl, inv_rf hI 6⟩
    have hlt : U < 12 := by omega
    have g1 : nI U < (12 : Int32) := nI_lt (b := 12) hlt (by decide)
    have g2 : ¬ nI U = (12 : Int32) := fun e => h3 (nI_inj (by omega) (by decide) (b := 12) e)
    rw [if_pos g1, if_neg g2]
    have ep : p_Firm_addUnit σ a2 = some (nI U, sx (sx σ 0 9 U (((1 : Int32) <<< (nI U &&& 31)) ||| t)) 0 1 1 (nI (U + 1))) := by
      unfold p_Firm_addUnit
      obtain ⟨r4, e1, e2⟩ := ht'
      rw [e1, hu.2.2.1, if_pos g1]
      rcases e2 with ⟨e3, e4, -⟩ | ⟨e3, a, e4, e5, e6⟩
      · subst e3; subst e4
        simp [lt1_eq, ix_nI hlt (show 12 < 2 ^ 31 by decide), sx_1, hu.2.2.1, nI_1]
      · subst e3; subst e5; subst e6
        simp [lt1_eq, ix_nI hlt (show 12 < 2 ^ 31 by decide), ix_nI (show a < 12 by omega) (show 12 < 2 ^ 31 by decide), sx_1, hu.2.2.1, nI_1]
    refine ⟨nI U, _, sx (sx (sx τ 0 1 U a1) 0 2 U a2) 0 0 1 (nI (U + 1)), ep, ?_, U + 1, L, E, hs, ⟨by omega, rfl, rfl, fun u hu' => ?_⟩, ⟨hp.1, hp.2.1, hp.2.2.1, fun p hpp => ?_⟩, hq, ht, hr, hl, he⟩
    · simp [ix_nI hlt (show 12 < 2 ^ 31 by decide), sx_1, hu.2.1, nI_1, nI_pred]
    · have q9 : ∀ j, j ≠ U → (sx (sx σ 0 9 U (((1 : Int32) <<< (nI U &&& 31)) ||| t)) 0 1 1 (nI (U + 1))).1 0 9 j = σ.1 0 9 j := fun j hj => by simp [sx_1, hj]
      have q9' : (sx (sx σ 0 9 U (((1 : Int32) <<< (nI U &&& 31)) ||| t)) 0 1 1 (nI (U + 1))).1 0 9 U = ((1 : Int32) <<< (nI U &&& 31)) ||| t := by simp [sx_1]
      have q2 : ∀ j, j ≠ U → (sx (sx (sx τ 0 1 U a1) 0 2 U a2) 0 0 1 (nI (U + 1))).1 0 2 j = τ.1 0 2 j := fun j hj => by simp [sx_1, hj]
      have q2' : (sx (sx (sx τ 0 1 U a1) 0 2 U a2) 0 0 1 (nI (U + 1))).1 0 2 U = a2 := by simp [sx_1]
      by_cases e : u = U
      · subst e
        rw [q9', q2']
        obtain ⟨r4, -, e2⟩ := ht'
        rcases e2 with ⟨-, e4, e5⟩ | ⟨-, a, e4, e5, e6⟩
        · exact Or.inl ⟨e5, by rw [e4]⟩
        · exact Or.inr ⟨a, e4, e5, by rw [q9 a (by omega), e6]⟩
      · rw [q9 u e, q2 u e]
        rcases hu.2.2.2 u (by omega) with c | ⟨a, c1, c2, c3⟩
        · exact Or.inl c
        · exact Or.inr ⟨a, c1, c2, by rw [q9 a (by omega)]; exact c3⟩
    · obtain ⟨b1, b2, ⟨u, b3, b4, b5⟩, b6⟩ := hp.2.2.2 p hpp
      exact ⟨b1, b2, ⟨u, by omega, b4, b5⟩, b6⟩
  by_cases hm : a2 = -1
  · subst hm
    have e1 : m_in (-1) (-1) (τ.1 0 0 1 - 1) = some 1 := by
      refine m_in_t (Int32.le_refl _) ?_
      rw [hu.2.1]
      cases U with
      | zero => decide
      | succ u => rw [nI_pred, i_le, nI_toInt (by omega)]; have : (-1 : Int32).toInt = -1 := rfl; omega
    rw [e1]
    simp only [obs, if_true, if_neg (show ¬ (1 : Int32) = 0 by decide)]
    exact main 0 ⟨0, rfl, Or.inl ⟨rfl, rfl, rfl⟩⟩
  · rw [if_neg hm]
    rcases in_or a2 (n := U) (by omega) with ⟨a, ha, rfl⟩ | ⟨hno, hout⟩
    · have e1 : m_in (nI a) (-1) (τ.1 0 0 1 - 1) = some 1 := by
        obtain ⟨v, rfl⟩ : ∃ v, U = v + 1 := ⟨U - 1, by omega⟩
        refine m_in_t ?_ ?_
        · rw [i_le, nI_toInt (by omega)]; have : (-1 : Int32).toInt = -1 := rfl; omega
        · rw [hu.2.1, nI_pred]; exact nI_le (by omega) (by omega)
      have e2 := p_isUnit_t hu ha
      rw [e1]
      have hm2 := main (σ.1 0 9 a) ⟨1, e2, Or.inr ⟨rfl, a, ha, rfl, rfl⟩⟩
      simp only [e2, obs, if_neg (show ¬ (1 : Int32) = 0 by decide)]
      exact hm2
    · have e1 : m_in a2 (-1) (τ.1 0 0 1 - 1) = some 0 := by
        refine m_in_f (fun hh => ?_)
        have h1 := hh.1
        have h2 := hh.2
        rw [hu.2.1] at h2
        have e3 : (nI U - 1).toInt = (U : Int) - 1 := pk_sub_toInt (a := U) (b := 1) (by omega) (by decide)
        rw [i_le] at h1 h2
        rw [e3] at h2
        have e4 : (-1 : Int32).toInt = -1 := rfl
        rcases hout with h | h
        · rw [i_lt] at h
          have e5 : (0 : Int32).toInt = 0 := rfl
          exact hm (by rw [i_eq]; omega)
        · rw [i_le, nI_toInt (by omega)] at h
          omega
      rw [e1, p_isUnit_f hu hno]
      simp only [obs, if_true]
      exact ⟨_, _, _, rfl, rfl, inv_rf hI 1⟩
/-- ranges from tests -/
theorem rg_of {lo hi : Int} {x l h : Int32} (h1 : ¬ x < l) (h2 : ¬ h < x) (hl : l.toInt = lo) (hh : h.toInt = hi) : Rg lo hi x := Rg.mk h1 h2 hl hh
theorem bind_pairn {α β γ : Type} (o : Option (α × β)) (n : γ) : (o.bind fun r => some ((r.1, r.2), n)) = o.map (fun r => (r, n)) := by cases o <;> rfl
theorem nup_same (N : Nat → Nat) (d : Nat) : nup N d (N d) = N := by
  funext d'
  unfold nup
  split
  · rename_i h; rw [h]
  · rfl
