def anyB (p : Nat → Bool) : Nat → Bool
  | 0 => false
  | n + 1 => anyB p n || p n
theorem anyB_iff {p : Nat → Bool} : ∀ {n : Nat}, anyB p n = true ↔ ∃ i, i < n ∧ p i = true
  | 0 => by simp [anyB]
  | n + 1 => by
    simp only [anyB, Bool.or_eq_true, anyB_iff (n := n)]
    constructor
    · rintro (⟨i, h1, h2⟩ | h)
      · exact ⟨i, by omega, h2⟩
      · exact ⟨n, by omega, h⟩
    · rintro ⟨i, h1, h2⟩
      by_cases e : i = n
      · subst e; exact Or.inr h2
      · exact Or.inl ⟨i, by omega, h2⟩
set_option maxHeartbeats 400000 in
theorem m_told_eq {σ τ : St} {Q L : Nat} (hl : ILe σ τ Q L) (k : Nat) {F : Nat} (hF : 999999 < F) : itr0 (S := Int32 × Int32) (E := Int32) (fun s3 => (if s3.2 < τ.1 0 0 53 then (Option.bind (α := Int32) ((if s3.1 = 0 then (Option.bind (ix 8 s3.2) fun i25 => (if τ.1 0 36 i25 = nI k then some (1 : Int32) else some (0 : Int32))) else some (1 : Int32))) fun t22 => some (.inl (t22, s3.2 + (1 : Int32)))) else some (.inr s3.1))) F ((0 : Int32), (0 : Int32)) = some (if anyB (fun i => decide (τ.1 0 36 i = nI k)) L then 1 else 0) := by
  have hL := hl.1
  have hrun := itr_run (f := fun s3 : Int32 × Int32 => (if s3.2 < τ.1 0 0 53 then (Option.bind (α := Int32) ((if s3.1 = 0 then (Option.bind (ix 8 s3.2) fun i25 => (if τ.1 0 36 i25 = nI k then some (1 : Int32) else some (0 : Int32))) else some (1 : Int32))) fun t22 => some (Sum.inl (t22, s3.2 + (1 : Int32)))) else some (Sum.inr s3.1))) L (fun i => ((if anyB (fun i => decide (τ.1 0 36 i = nI k)) i then (1 : Int32) else 0), nI i)) (if anyB (fun i => decide (τ.1 0 36 i = nI k)) L then 1 else 0) (fun i hi => ?_) ?_ F 0 (Nat.zero_le _) (by omega)
  · exact hrun
  · simp only
    rw [hl.2.1, if_pos (nI_lt hi (by omega)), nI_1, ix_nI (by omega) (by decide)]
    cases ha : anyB (fun i => decide (τ.1 0 36 i = nI k)) i
    · by_cases hc : τ.1 0 36 i = nI k
      · simp [anyB, ha, hc]
      · simp [anyB, ha, hc]
    · simp [anyB, ha]
  · simp only
    rw [hl.2.1, if_neg (nI_nlt (Nat.le_refl _) (by omega))]
