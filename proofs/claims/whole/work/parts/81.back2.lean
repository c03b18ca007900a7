/-! ===== back ===== -/
section Back2
variable {σ τ : St} {U P Q T R L E : Nat}
/-- whether one must be offered post p again -/
def rtB (τ : St) (p k : Nat) : Bool := decide (¬ τ.1 0 14 k < 0 ∧ ¬ τ.1 0 13 k < 0 ∧ ¬ τ.1 0 8 (τ.1 0 13 k).toNatClampNeg < 0 ∧ ¬ (180 : Int32) < τ.1 0 0 0 - τ.1 0 8 (τ.1 0 13 k).toNatClampNeg ∧ lkB τ p (τ.1 0 13 k).toNatClampNeg = true ∧ ¬ τ.1 0 14 k < τ.1 0 8 (τ.1 0 13 k).toNatClampNeg)
/-- the first of those below n -/
def rtF (τ : St) (p : Nat) : Nat → Option Nat
  | 0 => none
  | n + 1 => if rtB τ p n then Option.elim (rtF τ p n) (some n) (fun b => if τ.1 0 14 n < τ.1 0 14 b then some n else some b) else rtF τ p n
theorem rtF_lt (τ : St) (p : Nat) : ∀ {n b : Nat}, rtF τ p n = some b → b < n
  | 0, b, h => by cases h
  | n + 1, b, h => by
    unfold rtF at h
    split at h
    · cases hc : rtF τ p n with
      | none => rw [hc] at h; cases h; omega
      | some c =>
        rw [hc] at h
        have := rtF_lt τ p hc
        simp only [oes] at h
        split at h
        · cases h; omega
        · cases h; omega
    · have := rtF_lt τ p h
      omega
/-- what one who has left held last -/
theorem held_eq (hq : IPe σ τ P Q T) {k : Nat} (hk : k < Q) (hh : ¬ τ.1 0 14 k < 0) : (σ.2 2 k 5 = none ∧ τ.1 0 13 k = -1) ∨ ∃ p, p < P ∧ σ.2 2 k 5 = some p ∧ τ.1 0 13 k = nI p := by
  obtain ⟨-, -, -, -, -, -, -, -, -, -, -, -, -, -, a15, a16, -⟩ := hq.2.2.2 k hk
  rcases a15 with ⟨c, -⟩ | ⟨p, -, -, -, -, -, c⟩
  · exact a16.1 c
  · exact absurd c hh
theorem p_may_eq (hs : ISc σ τ) (hp : IPo σ τ U P Q) (hq : IPe σ τ P Q T) {k p : Nat} (hk : k < Q) (hpp : p < P) : p_Firm_mayReturn σ k p = some (if rtB τ p k then 1 else 0) := by
  have hP := hp.1
  have h6 := (hq.2.2.2 k hk).2.2.2.2.2.1
  unfold p_Firm_mayReturn
  by_cases hh : τ.1 0 14 k < 0
  · have : rtB τ p k = false := decide_eq_false (fun c => c.1 hh)
    rw [this, lt1_eq]
    cases σ.2 2 k 5 with
    | none => rfl
    | some q =>
      simp only [oes, (isHere_eq hq hk).1, obs, bI_eq0, hh, not_true, if_false]
      rfl
  · rcases held_eq hq hk hh with ⟨c1, c2⟩ | ⟨q, c1, c2, c3⟩
    · have : rtB τ p k = false := decide_eq_false (fun c => c.2.1 (by rw [c2]; decide))
      rw [this, lt1_eq, c1]
      rfl
    · have e8 := (hp.2.2.2 q c1).2.2.2.2.2.2.2.1
      rw [lt1_eq, c2]
      simp only [oes, (isHere_eq hq hk).1, obs, bI_eq0, hh, not_false_iff, if_true, p_open_eq hp c1, hs.1, e8, h6, p_like_eq hs hp c1 hpp]
      unfold rtB
      rw [c3, nI_clamp (by omega), lkB_comm τ p q]
      by_cases d1 : τ.1 0 8 q < 0
      · rw [if_neg (fun c => c d1), if_neg (fun c => (of_decide_eq_true c).2.2.1 d1)]
      · rw [if_pos d1]
        by_cases d2 : (180 : Int32) < τ.1 0 0 0 - τ.1 0 8 q
        · rw [if_pos d2, if_neg (fun c => (of_decide_eq_true c).2.2.2.1 d2)]
        · rw [if_neg d2]
          by_cases d3 : τ.1 0 14 k < τ.1 0 8 q
          · rw [if_pos d3, if_neg (fun c => (of_decide_eq_true c).2.2.2.2.2 d3)]
          · rw [if_neg d3]
            cases d4 : lkB τ q p with
            | false => rw [if_neg (show ¬ (decide _ = true) from fun c => by have := (of_decide_eq_true c).2.2.2.2.1; cases this)]; rfl
            | true =>
              rw [if_pos (decide_eq_true ⟨hh, nI_pos (by omega), d1, d2, rfl, d3⟩)]
              rfl
theorem p_first_eq (hs : ISc σ τ) (hp : IPo σ τ U P Q) (hq : IPe σ τ P Q T) {p : Nat} (hpp : p < P) : p_Firm_firstToReturn σ p = some (rtF τ p Q) := by
  have hQ := hq.1
  unfold p_Firm_firstToReturn
  refine itr_bd Q (fun i => (rtF τ p i, nI i)) (rtF τ p Q) (FU_lt (by omega)) rfl (fun i hi => ?_) ?_ rfl
  · simp only [lt1_eq, hq.2.2.1, if_pos (nI_lt hi (show Q < 2 ^ 31 by omega)), personAt_t hq hi, obs, oes, p_may_eq hs hp hq hi hpp, nI_1]
    have e : rtF τ p (i + 1) = if rtB τ p i then Option.elim (rtF τ p i) (some i) (fun b => if τ.1 0 14 i < τ.1 0 14 b then some i else some b) else rtF τ p i := rfl
    rw [e]
    cases rtB τ p i with
    | false => simp
    | true =>
      simp only [if_true, if_neg (show ¬ (1 : Int32) = 0 by decide)]
      cases hc : rtF τ p i with
      | none => rfl
      | some b =>
        have hb := rtF_lt τ p hc
        simp only [oes, (hq.2.2.2 i hi).2.2.2.2.2.1, (hq.2.2.2 b (by omega)).2.2.2.2.2.1]
        split <;> rfl
  · simp only [lt1_eq, hq.2.2.1, if_neg (nI_nlt (Nat.le_refl Q) (show Q < 2 ^ 31 by omega))]
end Back2
set_option maxHeartbeats 400000 in
theorem s_back : S_back Inv := by
  intro σ τ N a1 hI
  obtain ⟨U, L, E, hs, hu, hp, hq, ht, hr, hl, he⟩ := id hI
  have hQ := hq.1
  have hP := hp.1
  simp only [p_PE_back, m_back, bind_pair, p_r1, m_r1, p_r3, m_r3]
  rcases in_or a1 (n := N 1) (by omega) with ⟨p, hpp, rfl⟩ | ⟨hno, -⟩
  · rw [postAt_t hp hpp, isPost_t hp hpp]
    simp only [obs, oes, if_neg (show ¬ (1 : Int32) = 0 by decide), (vac_bI hp hq hpp).1, (vac_bI hp hq hpp).2]
    cases vaB σ τ p with
    | false =>
      simp only [Bool.false_eq_true, if_false, if_true]
      exact ⟨_, _, _, rfl, rfl, inv_rf hI 3⟩
    | true =>
      simp only [if_true, if_neg (show ¬ (1 : Int32) = 0 by decide), p_first_eq hs hp hq hpp, obs]
      refine ⟨Option.elim (rtF τ p (N 2)) (-9) nI, σ, τ, ?_, ?_, hI⟩
      · cases hc : rtF τ p (N 2) with
        | none => rfl
        | some b =>
          have hb := rtF_lt τ p hc
          simp only [oes, (hq.2.2.2 b hb).2.1]
      · refine itr_bd (N 2) (fun i => (oI (rtF τ p i), nI i)) (oI (rtF τ p (N 2))) (FU_lt (by omega)) rfl (fun i hi => ?_) ?_ ?_
        · simp only [hq.2.1, if_pos (nI_lt hi (show N 2 < 2 ^ 31 by omega)), ix_nI (show i < 40 by omega) (show 40 < 2 ^ 31 by decide), (isHere_eq hq hi).2, obs, bI_eq0, nI_1]
          have e16 : (if ¬ τ.1 0 14 i < 0 then (if τ.1 0 13 i < 0 then some (0 : Int32) else (Option.bind (ix 40 (τ.1 0 13 i)) fun i24 => (if τ.1 0 8 i24 < 0 then some (0 : Int32) else (Option.bind (ix 40 (τ.1 0 13 i)) fun i25 => (if (180 : Int32) < (τ.1 0 0 0) - (τ.1 0 8 i25) then some (0 : Int32) else (Option.bind (m_areLike τ (nI p) (τ.1 0 13 i)) fun r26 => (if r26 = 0 then some (0 : Int32) else (Option.bind (ix 40 (τ.1 0 13 i)) fun i29 => (if τ.1 0 14 i < τ.1 0 8 i29 then some (0 : Int32) else some (1 : Int32)))))))))) else some (0 : Int32)) = some (if rtB τ p i then 1 else 0) := by
            by_cases hh : τ.1 0 14 i < 0
            · rw [if_neg (fun c => c hh), if_neg (fun c => (of_decide_eq_true c).1 hh)]
            · rw [if_pos hh]
              rcases held_eq hq hi hh with ⟨c1, c2⟩ | ⟨q, c1, c2, c3⟩
              · have : rtB τ p i = false := decide_eq_false (fun c => c.2.1 (by rw [c2]; decide))
                rw [this, c2]
                rfl
              · unfold rtB
                rw [c3, if_neg (nI_pos (show q < 2 ^ 31 by omega)), nI_clamp (by omega), ix_nI (show q < 40 by omega) (by decide)]
                simp only [obs, m_like_eq hp hpp c1]
                by_cases d1 : τ.1 0 8 q < 0
                · rw [if_pos d1, if_neg (fun c => (of_decide_eq_true c).2.2.1 d1)]
                · rw [if_neg d1]
                  by_cases d2 : (180 : Int32) < τ.1 0 0 0 - τ.1 0 8 q
                  · rw [if_pos d2, if_neg (fun c => (of_decide_eq_true c).2.2.2.1 d2)]
                  · rw [if_neg d2]
                    cases d4 : lkB τ p q with
                    | false => rw [if_neg (show ¬ (decide _ = true) from fun c => by have := (of_decide_eq_true c).2.2.2.2.1; cases this)]; rfl
                    | true =>
                      simp only [if_true, if_neg (show ¬ (1 : Int32) = 0 by decide)]
                      by_cases d3 : τ.1 0 14 i < τ.1 0 8 q
                      · rw [if_pos d3, if_neg (show ¬ (decide _ = true) from fun c => (of_decide_eq_true c).2.2.2.2.2 d3)]
                      · rw [if_neg d3, if_pos (decide_eq_true ⟨hh, nI_pos (by omega), d1, d2, trivial, d3⟩)]
          rw [e16]
          have e : rtF τ p (i + 1) = if rtB τ p i then Option.elim (rtF τ p i) (some i) (fun b => if τ.1 0 14 i < τ.1 0 14 b then some i else some b) else rtF τ p i := rfl
          rw [e]
          cases rtB τ p i with
          | false => simp
          | true =>
            simp only [if_true, obs, if_neg (show ¬ (1 : Int32) = 0 by decide)]
            cases hc : rtF τ p i with
            | none => rfl
            | some b =>
              have hb := rtF_lt τ p hc
              simp only [oI_some, oes, if_neg (nI_pos (show b < 2 ^ 31 by omega)), ix_nI (show b < 40 by omega) (show 40 < 2 ^ 31 by decide), obs]
              split <;> rfl
        · simp only [hq.2.1, if_neg (nI_nlt (Nat.le_refl (N 2)) (show N 2 < 2 ^ 31 by omega))]
        · cases hc : rtF τ p (N 2) with
          | none => rfl
          | some b =>
            have hb := rtF_lt τ p hc
            have h0 : ¬ oI (some b) < 0 := nI_pos (show b < 2 ^ 31 by omega)
            rw [if_neg h0]
            rfl
  · rw [postAt_f hp hno, isPost_f hp hno]
    simp only [obs, oen, if_true]
    exact ⟨_, _, _, rfl, rfl, inv_rf hI 1⟩
