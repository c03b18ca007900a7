def anyB (p : Nat → Bool) : Nat → Bool
  | 0 => false
  | n + 1 => anyB p n || p n
theorem anyB_iff {p : Nat → Bool} : ∀ {n : Nat}, anyB p n = true ↔ ∃ i, i < n ∧ p i = true
  | 0 => by simp [anyB]
  | n + 1 => by
    simp only [anyB, Bool.or_eq_true, anyB_iff (n := n)]
    constructor
    · rintro (⟨i, h1, h2⟩ | h)
      · exact ⟨i, by omega, h2⟩
      · exact ⟨n, by omega, h⟩
    · rintro ⟨i, h1, h2⟩
      by_cases e : i = n
      · subst e; exact Or.inr h2
      · exact Or.inl ⟨i, by omega, h2⟩
set_option maxHeartbeats 400000 in
theorem m_told_eq {σ τ : St} {Q L : Nat} (hl : ILe σ τ Q L) (k : Nat) {F : Nat} (hF : 999999 < F) : itr0 (S := Int32 × Int32) (E := Int32) (fun s3 => (if s3.2 < τ.1 0 0 53 then (Option.bind (α := Int32) ((if s3.1 = 0 then (Option.bind (ix 8 s3.2) fun i25 => (if τ.1 0 36 i25 = nI k then some (1 : Int32) else some (0 : Int32))) else some (1 : Int32))) fun t22 => some (.inl (t22, s3.2 + (1 : Int32)))) else some (.inr s3.1))) F ((0 : Int32), (0 : Int32)) = some (if anyB (fun i => decide (τ.1 0 36 i = nI k)) L then 1 else 0) := by
  have hL := hl.1
  have hrun := itr_run (f := fun s3 : Int32 × Int32 => (if s3.2 < τ.1 0 0 53 then (Option.bind (α := Int32) ((if s3.1 = 0 then (Option.bind (ix 8 s3.2) fun i25 => (if τ.1 0 36 i25 = nI k then some (1 : Int32) else some (0 : Int32))) else some (1 : Int32))) fun t22 => some (Sum.inl (t22, s3.2 + (1 : Int32)))) else some (Sum.inr s3.1))) L (fun i => ((if anyB (fun i => decide (τ.1 0 36 i = nI k)) i then (1 : Int32) else 0), nI i)) (if anyB (fun i => decide (τ.1 0 36 i = nI k)) L then 1 else 0) (fun i hi => ?_) ?_ F 0 (Nat.zero_le _) (by omega)
  · exact hrun
  · simp only
    rw [hl.2.1, if_pos (nI_lt hi (by omega)), nI_1, ix_nI (by omega) (by decide)]
    cases ha : anyB (fun i => decide (τ.1 0 36 i = nI k)) i
    · by_cases hc : τ.1 0 36 i = nI k
      · simp [anyB, ha, hc]
      · simp [anyB, ha, hc]
    · simp [anyB, ha]
  · simp only
    rw [hl.2.1, if_neg (nI_nlt (Nat.le_refl _) (by omega))]
set_option maxHeartbeats 400000 in
theorem s_leaver : S_leaver Inv := by
  intro σ τ N a1 hI
  obtain ⟨U, L, E, hs, hu, hp, hq, ht, hr, hl, he⟩ := id hI
  have hQ := hq.1
  have hL := hl.1
  simp only [p_PE_leaver, m_leaver, bind_pair, lt1_eq]
  have hF : 999999 < FU := by decide
  generalize FU = F at hF ⊢
  rcases in_or a1 (n := N 2) (by omega) with ⟨k, hk, rfl⟩ | ⟨hno, -⟩
  · rw [personAt_t hq hk, isPerson_t hq hk]
    simp only [obs, oes, if_neg (show ¬ (1 : Int32) = 0 by decide), m_told_eq hl k hF, p_r3, m_r3, p_r6, m_r6, (isHere_eq hq hk).1, (isHere_eq hq hk).2, bI_eq0]
    by_cases h0 : τ.1 0 14 k < 0
    · simp only [h0, not_true, if_false]
      obtain ⟨b, hb1, hb2⟩ := isTold_eq hl hQ hk
      rw [hb1]
      have hab : anyB (fun i => decide (τ.1 0 36 i = nI k)) L = b := by
        rw [Bool.eq_iff_iff, anyB_iff, hb2]
        simp
      rw [hab]
      cases b
      · simp only [obs, if_true, Bool.false_eq_true, if_false]
        by_cases h8 : L = 8
        · subst h8
          rw [if_neg (by rw [hl.2.2.1]; decide), if_pos (by rw [hl.2.1]; rfl)]
          exact ⟨_, _, _, rfl, rfl, inv_rf hI 6⟩
        · have hlt : L < 8 := by omega
          have g1 : nI L < (8 : Int32) := nI_lt (b := 8) hlt (by decide)
          have g2 : ¬ nI L = (8 : Int32) := fun e => h8 (nI_inj (by omega) (by decide) (b := 8) e)
          rw [if_pos (by rw [hl.2.2.1]; exact g1), if_neg (by rw [hl.2.1]; exact g2)]
          have ep : p_Offering_addLeaver σ k = some (nI (L + 1), sx (sy σ 0 28 L (some k)) 0 6 7 (nI (L + 1))) := by
            simp [p_Offering_addLeaver, lt1_eq, sx_1, sy_1, hl.2.2.1, g1, ix_nI hlt (show 8 < 2 ^ 31 by decide), nI_1]
          refine ⟨nI (L + 1), _, sx (sx τ 0 36 L (nI k)) 0 0 53 (nI (L + 1)), ep, ?_, U, L + 1, E, hs, hu, hp, hq, ht, hr, ⟨by omega, ?_, ?_, fun i hi => ?_⟩, he⟩
          · simp [sx_1, hl.2.1, ix_nI hlt (show 8 < 2 ^ 31 by decide), nI_1]
          · simp [sx_1]
          · simp [sx_1]
          · by_cases e : i = L
            · subst e
              exact ⟨k, hk, by simp [sx_2, sy_2], by simp [sx_1]⟩
            · obtain ⟨j, hj, e1, e2⟩ := hl.2.2.2 i (by omega)
              exact ⟨j, hj, by simp [sx_2, sy_2, e, e1], by simp [sx_1, e, e2]⟩
      · simp only [obs, if_true, if_neg (show ¬ (1 : Int32) = 0 by decide)]
        exact ⟨_, _, _, rfl, rfl, inv_rf hI 3⟩
    · simp only [h0, not_false_iff, if_true]
      exact ⟨_, _, _, rfl, rfl, inv_rf hI 3⟩
  · rw [personAt_f hq hno, isPerson_f hq hno]
    simp only [obs, oen, if_true, p_r1, m_r1]
    exact ⟨_, _, _, rfl, rfl, inv_rf hI 1⟩
