/-! ===== ends within ninety days, notice ===== -/
def wsum (τ : St) (pl dy : Int32) : Nat → Int32
  | 0 => 0
  | n + 1 => wsum τ pl dy n + (if τ.1 0 40 n = pl ∧ dy - 89 ≤ τ.1 0 41 n ∧ τ.1 0 41 n ≤ dy then τ.1 0 42 n else 0)
set_option maxHeartbeats 400000 in
theorem m_endedBy_eq {σ τ : St} {E : Nat} (he : IEn σ τ E) (pl dy : Int32) : m_endedBy τ pl dy = some (wsum τ pl dy E) := by
  have hE := he.1
  unfold m_endedBy
  have hF : 999999 < FU := by decide
  generalize FU = F at hF ⊢
  have hrun := itr_run (f := fun s1 : Int32 × Int32 => (if s1.2 < τ.1 0 0 59 then (Option.bind (ix 60 s1.2) fun i9 => (Option.bind (α := Int32) ((if τ.1 0 40 i9 = pl then (Option.bind (ix 60 s1.2) fun i13 => (Option.bind (m_in (τ.1 0 41 i13) (dy - (89 : Int32)) dy) fun r14 => (if r14 = 0 then some (0 : Int32) else (Option.bind (ix 60 s1.2) fun i16 => some (τ.1 0 42 i16))))) else some (0 : Int32))) fun t10 => some (Sum.inl (s1.1 + t10, s1.2 + (1 : Int32))))) else some (Sum.inr s1.1))) E (fun i => (wsum τ pl dy i, nI i)) (wsum τ pl dy E) (fun i hi => ?_) ?_ F 0 (Nat.zero_le _) (by omega)
  · have h2 : ((0 : Int32), (0 : Int32)) = (wsum τ pl dy 0, nI 0) := rfl
    rw [h2, hrun]
    rfl
  · simp only
    rw [he.2.1, if_pos (nI_lt hi (by omega)), nI_1, ix_nI (by omega) (by decide)]
    simp only [obs, m_in_eq, bI_eq0, wsum]
    by_cases h1 : τ.1 0 40 i = pl
    · by_cases h2 : dy - 89 ≤ τ.1 0 41 i ∧ τ.1 0 41 i ≤ dy
      · simp [h1, h2]
      · simp [h1, h2]
    · simp [h1]
  · simp only
    rw [he.2.1, if_neg (nI_nlt (Nat.le_refl _) (by omega))]
