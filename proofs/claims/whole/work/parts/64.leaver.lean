theorem leaverAt_eq {σ τ : St} {Q L : Nat} (hl : ILe σ τ Q L) {i : Nat} (hi : i < L) : p_Offering_leaverAt σ (nI i) = some (σ.2 0 28 i) := by
  have hL := hl.1
  unfold p_Offering_leaverAt
  rw [if_neg (nI_pos (by omega)), hl.2.2.1, if_pos (nI_lt hi (by omega)), if_pos (show nI i < 8 from nI_lt (b := 8) (by omega) (by decide)), ix_nI (by omega) (by decide)]
  rfl
set_option maxHeartbeats 400000 in
theorem isTold_eq {σ τ : St} {Q L : Nat} (hl : ILe σ τ Q L) (hQ : Q ≤ 40) {k : Nat} (hk : k < Q) : ∃ b : Bool, p_Offering_isTold σ k = some (if b then 1 else 0) ∧ (b = true ↔ ∃ i, i < L ∧ τ.1 0 36 i = nI k) := by
  have hL := hl.1
  by_cases hx : ∃ i, i < L ∧ τ.1 0 36 i = nI k
  · refine ⟨true, ?_, by simp [hx]⟩
    obtain ⟨i0, ⟨h1, h2⟩, hmin⟩ := pk_least (fun i => i < L ∧ τ.1 0 36 i = nI k) hx
    unfold p_Offering_isTold
    have hF : 999999 < FU := by decide
    generalize FU = F at hF ⊢
    have hrun := itr_run (f := fun s1 : Int32 => (if s1 < σ.1 0 6 7 then (Option.bind (p_Offering_leaverAt σ s1) fun r9 => (if r9 = (some k) then some (Sum.inr (Sum.inr (1 : Int32))) else some (Sum.inl (s1 + (1 : Int32))))) else some (Sum.inr (Sum.inl ())))) i0 nI (.inr 1) (fun i hi => ?_) ?_ F 0 (Nat.zero_le _) (by omega)
    · rw [show nI 0 = (0 : Int32) from rfl] at hrun
      rw [hrun]
      rfl
    · have hiL : i < L := by omega
      rw [hl.2.2.1, if_pos (nI_lt hiL (by omega)), leaverAt_eq hl hiL, obs]
      obtain ⟨j, hj, e1, e2⟩ := hl.2.2.2 i hiL
      rw [e1, if_neg (fun e => hmin i hi ⟨hiL, by rw [e2]; congr 1; exact Option.some.inj e⟩), nI_1]
    · rw [hl.2.2.1, if_pos (nI_lt h1 (by omega)), leaverAt_eq hl h1, obs]
      obtain ⟨j, hj, e1, e2⟩ := hl.2.2.2 i0 h1
      rw [h2] at e2
      rw [e1, if_pos (by rw [nI_inj (by omega) (by omega) e2])]
  · refine ⟨false, ?_, by simp [hx]⟩
    unfold p_Offering_isTold
    have hF : 999999 < FU := by decide
    generalize FU = F at hF ⊢
    have hrun := itr_run (f := fun s1 : Int32 => (if s1 < σ.1 0 6 7 then (Option.bind (p_Offering_leaverAt σ s1) fun r9 => (if r9 = (some k) then some (Sum.inr (Sum.inr (1 : Int32))) else some (Sum.inl (s1 + (1 : Int32))))) else some (Sum.inr (Sum.inl ())))) L nI (.inl ()) (fun i hi => ?_) ?_ F 0 (Nat.zero_le _) (by omega)
    · rw [show nI 0 = (0 : Int32) from rfl] at hrun
      rw [hrun]
      rfl
    · rw [hl.2.2.1, if_pos (nI_lt hi (by omega)), leaverAt_eq hl hi, obs]
      obtain ⟨j, hj, e1, e2⟩ := hl.2.2.2 i hi
      rw [e1, if_neg (fun e => hx ⟨i, hi, by rw [e2]; congr 1; exact Option.some.inj e⟩), nI_1]
    · rw [hl.2.2.1, if_neg (nI_nlt (Nat.le_refl _) (by omega))]
