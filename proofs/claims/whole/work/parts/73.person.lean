/-! ===== person ===== -/
theorem sy_comm (σ : St) {d j k d' j' k' : Nat} (v v' : Option Nat) (h : d ≠ d') : sy (sy σ d j k v) d' j' k' v' = sy (sy σ d' j' k' v') d j k v := by
  refine Prod.ext rfl ?_
  funext a b c
  simp only [sy_2]
  by_cases h1 : a = d' ∧ b = j' ∧ c = k'
  · rw [if_pos h1, if_neg (fun e => h (e.1.symm.trans h1.1)), if_pos h1]
  · rw [if_neg h1, if_neg h1]
def niC (σ : St) (Q : Nat) (a2 a3 a4 : Int32) : St := sx (sx (sx (sx (sx (sx (sx (clr σ 2 Q) 2 Q 6 (-1)) 2 Q 7 (-1)) 2 Q 8 (-1)) 2 Q 0 (nI Q)) 2 Q 1 a2) 2 Q 2 a3) 2 Q 3 a4
def nqC (σ : St) (Q : Nat) (a2 a3 a4 : Int32) : St := sx (sy (niC σ Q a2 a3 a4) 0 11 Q (some Q)) 0 1 3 (nI (Q + 1))
def nqM (τ : St) (Q : Nat) (v a2 a3 a4 : Int32) : St := sx (sx (sx (sx (sx (sx (sx (sx (sx τ 0 12 Q v) 0 13 Q (-1)) 0 9 Q a2) 0 10 Q a3) 0 11 Q a4) 0 14 Q (-1)) 0 15 Q (-1)) 0 16 Q (-1)) 0 0 11 (nI (Q + 1))
theorem nq_hold (σ : St) (Q : Nat) (a2 a3 a4 : Int32) (np : Option Nat) : sx (sy (hdC (niC σ Q a2 a3 a4) Q np) 0 11 Q (some Q)) 0 1 3 (nI (Q + 1)) = hdC (nqC σ Q a2 a3 a4) Q np := by
  have e1 : (niC σ Q a2 a3 a4).2 2 Q 4 = none := by simp [niC, sx_2, clr]
  have e2 : (nqC σ Q a2 a3 a4).2 2 Q 4 = none := by simp [nqC, niC, sx_2, sy_2, clr]
  unfold hdC
  rw [e1, e2]
  cases np with
  | none =>
    simp only [oen]
    rw [sy_comm _ _ _ (by decide)]
    rfl
  | some p =>
    simp only [oen]
    rw [sy_comm _ _ _ (show (2 : Nat) ≠ 0 by decide), sy_comm _ _ _ (show (1 : Nat) ≠ 0 by decide), sy_comm _ _ _ (show (2 : Nat) ≠ 0 by decide)]
    rfl
theorem nq_holdM (τ : St) (Q : Nat) (v a2 a3 a4 : Int32) : hdM (nqM τ Q (-1) a2 a3 a4) Q v = nqM τ Q v a2 a3 a4 := by
  refine Prod.ext ?_ rfl
  funext d j i
  unfold hdM nqM
  simp only [sx_1]
  by_cases h1 : d = 0 ∧ j = 12 ∧ i = Q
  · simp [h1]
  · by_cases h2 : d = 0 ∧ j = 13 ∧ i = Q
    · simp [h2]
    · simp [h1, h2]
theorem inv_person {σ τ : St} {U P Q T R L E : Nat} (h : InvB σ τ U P Q T R L E) {a2 a3 a4 : Int32} (hQ : Q < 40) (g2 : Rg 0 1023 a2) (g3 : Rg (-20000) ((τ.1 0 0 0).toInt) a3) (g4 : Rg 100 9999 a4) : InvB (nqC σ Q a2 a3 a4) (nqM τ Q (-1) a2 a3 a4) U P (Q + 1) T R L E := by
  obtain ⟨hs, hu, hp, hq, ht, hr, hl, he⟩ := h
  have hP := hp.1
  have hT := ht.1
  have c1 : ∀ j, j ≠ Q → (nqC σ Q a2 a3 a4).1 2 j = σ.1 2 j := fun j hj => by funext i; simp [nqC, niC, clr, sx_1, sy_1, hj]
  have c2 : ∀ j, j ≠ Q → (nqC σ Q a2 a3 a4).2 2 j = σ.2 2 j := fun j hj => by funext i; simp [nqC, niC, clr, sx_2, sy_2, hj]
  have m12 : ∀ j, j ≠ Q → (nqM τ Q (-1) a2 a3 a4).1 0 12 j = τ.1 0 12 j := fun j hj => by simp [nqM, sx_1, hj]
  have m12' : (nqM τ Q (-1) a2 a3 a4).1 0 12 Q = -1 := by simp [nqM, sx_1]
  have htl : ∀ w, lastB (tk τ Q w) T = none := by
    intro w
    refine lastB_no (fun j hj => ?_)
    obtain ⟨-, ⟨k, d1, d2, -⟩, -⟩ := ht.2.2.2 j hj
    unfold tk
    refine decide_eq_false (fun c => ?_)
    have := c.1
    rw [d2] at this
    have := nI_inj (by omega) (by omega) this
    omega
  refine ⟨hs, hu, ⟨hp.1, hp.2.1, hp.2.2.1, fun p hpp => ?_⟩, ⟨by omega, rfl, rfl, fun k hk => ?_⟩, ⟨ht.1, ht.2.1, ht.2.2.1, fun t htt => ?_⟩, hr, ⟨hl.1, hl.2.1, hl.2.2.1, fun i hi => ?_⟩, he⟩
  · obtain ⟨b1, b2, b3, b4, b5, b6, b7, b8, b9, b10, b11, b12, b13, b14, b15⟩ := hp.2.2.2 p hpp
    refine ⟨b1, b2, b3, b4, b5, b6, b7, b8, b9, b10, b11, b12, b13, fun k hk => ?_, fun hn k hk => ?_⟩
    · obtain ⟨d1, d2⟩ := b14 k hk
      exact ⟨by omega, by rw [m12 k (by omega)]; exact d2⟩
    · by_cases e : k = Q
      · subst e
        rw [m12']
        exact fun c => nI_m1 (k := p) (by omega) c.symm
      · rw [m12 k e]
        exact b15 hn k (by omega)
  · by_cases e : k = Q
    · subst e
      have h0 : 0 ≤ (τ.1 0 0 0).toInt := hs.2.1.1
      have e1 : (-1 : Int32).toInt = -1 := rfl
      refine ⟨by simp [nqC, niC, sx_2, sy_2], by simp [nqC, niC, sx_1, sy_1], by simp [nqC, niC, nqM, sx_1, sy_1], by simp [nqC, niC, nqM, sx_1, sy_1], by simp [nqC, niC, nqM, sx_1, sy_1], by simp [nqC, niC, nqM, sx_1, sy_1], by simp [nqC, niC, nqM, sx_1, sy_1], by simp [nqC, niC, nqM, sx_1, sy_1], by simpa [nqM, sx_1] using g2, by simpa [nqM, sx_1] using g3, by simpa [nqM, sx_1] using g4, ?_, ?_, ?_, Or.inl ⟨by simp [nqC, niC, sx_2, sy_2, clr], m12'⟩, ⟨fun _ => Or.inl ⟨by simp [nqC, niC, sx_2, sy_2, clr], by simp [nqM, sx_1]⟩, fun p hp' => ?_⟩, ?_, ?_⟩
      · have : (nqM τ k (-1) a2 a3 a4).1 0 14 k = -1 := by simp [nqM, sx_1]
        rw [this]
        refine ⟨by decide, ?_⟩
        show (-1 : Int32).toInt ≤ (τ.1 0 0 0).toInt
        omega
      · have : (nqM τ k (-1) a2 a3 a4).1 0 15 k = -1 := by simp [nqM, sx_1]
        rw [this]; exact ⟨by decide, by decide⟩
      · have : (nqM τ k (-1) a2 a3 a4).1 0 16 k = -1 := by simp [nqM, sx_1]
        rw [this]; exact ⟨by decide, by decide⟩
      · have : (nqC σ k a2 a3 a4).2 2 k 4 = none := by simp [nqC, niC, sx_2, sy_2, clr]
        rw [this] at hp'; cases hp'
      · have : (nqC σ k a2 a3 a4).2 2 k 9 = none := by simp [nqC, niC, sx_2, sy_2, clr]
        rw [this]
        exact (htl 0).symm
      · have : (nqC σ k a2 a3 a4).2 2 k 10 = none := by simp [nqC, niC, sx_2, sy_2, clr]
        rw [this]
        exact (htl 1).symm
    · obtain ⟨b1, b2, b3, b4, b5, b6, b7, b8, b9, b10, b11, b12, b13, b14, b15, b16, b17⟩ := hq.2.2.2 k (by omega)
      unfold IPe1
      rw [c1 k e, c2 k e, m12 k e]
      refine ⟨by simpa [nqC, niC, sx_2, sy_2, clr, e] using b1, b2, by simpa [nqM, sx_1, e] using b3, by simpa [nqM, sx_1, e] using b4, by simpa [nqM, sx_1, e] using b5, by simpa [nqM, sx_1, e] using b6, by simpa [nqM, sx_1, e] using b7, by simpa [nqM, sx_1, e] using b8, by simpa [nqM, sx_1, e] using b9, by simpa [nqM, sx_1, e] using b10, by simpa [nqM, sx_1, e] using b11, by simpa [nqM, sx_1, e] using b12, by simpa [nqM, sx_1, e] using b13, by simpa [nqM, sx_1, e] using b14, ?_, ⟨fun hn => ?_, b16.2⟩, b17⟩
      · rcases b15 with c | ⟨p, d1, d2, d3, d4, d5, d6⟩
        · exact Or.inl c
        · exact Or.inr ⟨p, d1, d2, d3, d4, d5, by simpa [nqM, sx_1, e] using d6⟩
      · rcases b16.1 hn with ⟨d1, d2⟩ | ⟨p, d1, d2, d3⟩
        · exact Or.inl ⟨d1, by simpa [nqM, sx_1, e] using d2⟩
        · exact Or.inr ⟨p, d1, d2, by simpa [nqM, sx_1, e] using d3⟩
  · obtain ⟨b1, ⟨k, d1, d2⟩, b3⟩ := ht.2.2.2 t htt
    exact ⟨b1, ⟨k, by omega, d2⟩, b3⟩
  · obtain ⟨k, d1, d2⟩ := hl.2.2.2 i hi
    exact ⟨k, by omega, d2⟩
set_option maxHeartbeats 800000 in
theorem s_person : S_person Inv := by
  intro σ τ N a1 a2 a3 a4 hI
  obtain ⟨U, L, E, h⟩ := id hI
  obtain ⟨hs, hu, hp, hq, ht, hr, hl, he⟩ := id h
  have hP := hp.1
  have hQ := hq.1
  have rf : ∀ c, Inv (rfC σ c) (rfM τ c) (nup N 2 (N 2)) := fun c => by rw [nup_same]; exact inv_rf hI c
  simp only [p_PE_person, m_person, bind_pair, lt1_eq, p_r1, m_r1, p_r3, m_r3, p_r4, m_r4, p_r6, m_r6, obs, hs.1]
  -- the common end
  have main : ∀ (np : Option Nat) (K K' : Option ((Int32 × St) × Nat)) (M M' : Option (Int32 × St)), (∀ p, np = some p → p < N 1 ∧ vac σ τ p) →
      K = (if a2 < 0 then some (((-4 : Int32), rfC σ 4), N 2) else if a3 < -20000 then some (((-4 : Int32), rfC σ 4), N 2) else if a4 < 100 then some (((-4 : Int32), rfC σ 4), N 2) else if (1023 : Int32) < a2 then some (((-6 : Int32), rfC σ 6), N 2) else if τ.1 0 0 0 < a3 then some (((-6 : Int32), rfC σ 6), N 2) else if (9999 : Int32) < a4 then some (((-6 : Int32), rfC σ 6), N 2) else if σ.1 0 1 3 < 40 then K' else some (((-6 : Int32), rfC σ 6), N 2)) →
      M = (if a2 < 0 then some ((-4 : Int32), rfM τ 4) else if a3 < -20000 then some ((-4 : Int32), rfM τ 4) else if a4 < 100 then some ((-4 : Int32), rfM τ 4) else if (1023 : Int32) < a2 then some ((-6 : Int32), rfM τ 6) else if τ.1 0 0 0 < a3 then some ((-6 : Int32), rfM τ 6) else if (9999 : Int32) < a4 then some ((-6 : Int32), rfM τ 6) else if τ.1 0 0 11 = 40 then some ((-6 : Int32), rfM τ 6) else M') →
      (N 2 < 40 → K' = some ((nI (N 2), hdC (nqC σ (N 2) a2 a3 a4) (N 2) np), N 2 + 1)) → (N 2 < 40 → M' = some (nI (N 2), nqM τ (N 2) (oI np) a2 a3 a4)) →
      ∃ (r : Int32) (σ' τ' : St) (n' : Nat), K = some ((r, σ'), n') ∧ M = some (r, τ') ∧ Inv σ' τ' (nup N 2 n') := by
    intro np K K' M M' hnp hK hM hK' hM'
    rw [hK, hM]
    by_cases h1 : a2 < 0
    · simp only [if_pos h1]; exact ⟨_, _, _, _, rfl, rfl, rf 4⟩
    by_cases h2 : a3 < -20000
    · simp only [if_neg h1, if_pos h2]; exact ⟨_, _, _, _, rfl, rfl, rf 4⟩
    by_cases h3 : a4 < 100
    · simp only [if_neg h1, if_neg h2, if_pos h3]; exact ⟨_, _, _, _, rfl, rfl, rf 4⟩
    by_cases h5 : (1023 : Int32) < a2
    · simp only [if_neg h1, if_neg h2, if_neg h3, if_pos h5]; exact ⟨_, _, _, _, rfl, rfl, rf 6⟩
    by_cases h6 : τ.1 0 0 0 < a3
    · simp only [if_neg h1, if_neg h2, if_neg h3, if_neg h5, if_pos h6]; exact ⟨_, _, _, _, rfl, rfl, rf 6⟩
    by_cases h7 : (9999 : Int32) < a4
    · simp only [if_neg h1, if_neg h2, if_neg h3, if_neg h5, if_neg h6, if_pos h7]; exact ⟨_, _, _, _, rfl, rfl, rf 6⟩
    simp only [if_neg h1, if_neg h2, if_neg h3, if_neg h5, if_neg h6, if_neg h7, hq.2.1, hq.2.2.1]
    by_cases h9 : N 2 = 40
    · rw [h9, if_neg (show ¬ nI 40 < 40 by decide), if_pos (show nI 40 = 40 from rfl)]
      exact ⟨_, _, _, _, rfl, rfl, by rw [← h9]; exact rf 6⟩
    have hlt : N 2 < 40 := by omega
    have g1 : nI (N 2) < (40 : Int32) := nI_lt (b := 40) hlt (by decide)
    have g2 : ¬ nI (N 2) = (40 : Int32) := fun e => h9 (nI_inj (by omega) (by decide) (b := 40) e)
    rw [if_pos g1, if_neg g2, hK' hlt, hM' hlt]
    refine ⟨_, _, _, _, rfl, rfl, U, L, E, ?_⟩
    have hx := inv_person h hlt (a2 := a2) (a3 := a3) (a4 := a4) (Rg.mk h1 h5 rfl rfl) (by rw [i_lt] at h2 h6; have e1 : (-20000 : Int32).toInt = -20000 := rfl; exact ⟨by omega, by omega⟩) (Rg.mk h3 h7 rfl rfl)
    have hy := inv_hold hx (k := N 2) (by omega) (by simp [nqM, sx_1]) (np := np) (fun p e => by
      obtain ⟨d1, d2, d3⟩ := hnp p e
      refine ⟨d1, d2, fun j hj => ?_⟩
      have : σ.2 1 p 7 = some j := hj
      rw [d3] at this; cases this)
    rw [nq_holdM] at hy
    exact hy
  have hKi : ∀ np, N 2 < 40 → ((p_Person_init (clr σ 2 (N 2)) (N 2) ((clr σ 2 (N 2)).1 0 1 3) a2 a3 a4).bind fun r16 => (p_Person_hold r16 (N 2) np).bind fun r18 => (p_Firm_addPerson r18 (N 2)).bind fun r20 => some ((r20.1, r20.2), N 2 + 1)) = some ((nI (N 2), hdC (nqC σ (N 2) a2 a3 a4) (N 2) np), N 2 + 1) := by
    intro np hlt
    have g1 : nI (N 2) < (40 : Int32) := nI_lt (b := 40) hlt (by decide)
    rw [show (clr σ 2 (N 2)).1 0 1 3 = nI (N 2) from hq.2.2.1]
    have e0 : p_Person_init (clr σ 2 (N 2)) (N 2) (nI (N 2)) a2 a3 a4 = some (niC σ (N 2) a2 a3 a4) := rfl
    have e2 : (hdC (niC σ (N 2) a2 a3 a4) (N 2) np).1 0 1 3 = nI (N 2) := by rw [hdC_1]; exact hq.2.2.1
    rw [e0]
    simp only [obs, p_hold_eq, p_Firm_addPerson, e2, if_pos g1, ix_nI hlt (show 40 < 2 ^ 31 by decide), lt1_eq, sy_1, nI_1]
    rw [nq_hold]
  have hMi : ∀ v, N 2 < 40 → ((ix 40 (τ.1 0 0 11)).bind fun i11 => (ix 40 ((sx τ 0 12 i11 v).1 0 0 11)).bind fun i13 => (ix 40 ((sx (sx τ 0 12 i11 v) 0 13 i13 (-1)).1 0 0 11)).bind fun i15 => (ix 40 ((sx (sx (sx τ 0 12 i11 v) 0 13 i13 (-1)) 0 9 i15 a2).1 0 0 11)).bind fun i17 => (ix 40 ((sx (sx (sx (sx τ 0 12 i11 v) 0 13 i13 (-1)) 0 9 i15 a2) 0 10 i17 a3).1 0 0 11)).bind fun i19 => (ix 40 ((sx (sx (sx (sx (sx τ 0 12 i11 v) 0 13 i13 (-1)) 0 9 i15 a2) 0 10 i17 a3) 0 11 i19 a4).1 0 0 11)).bind fun i21 => (ix 40 ((sx (sx (sx (sx (sx (sx τ 0 12 i11 v) 0 13 i13 (-1)) 0 9 i15 a2) 0 10 i17 a3) 0 11 i19 a4) 0 14 i21 (-1)).1 0 0 11)).bind fun i23 => (ix 40 ((sx (sx (sx (sx (sx (sx (sx τ 0 12 i11 v) 0 13 i13 (-1)) 0 9 i15 a2) 0 10 i17 a3) 0 11 i19 a4) 0 14 i21 (-1)) 0 15 i23 (-1)).1 0 0 11)).bind fun i25 => some ((sx (sx (sx (sx (sx (sx (sx (sx (sx τ 0 12 i11 v) 0 13 i13 (-1)) 0 9 i15 a2) 0 10 i17 a3) 0 11 i19 a4) 0 14 i21 (-1)) 0 15 i23 (-1)) 0 16 i25 (-1)) 0 0 11 ((sx (sx (sx (sx (sx (sx (sx (sx τ 0 12 i11 v) 0 13 i13 (-1)) 0 9 i15 a2) 0 10 i17 a3) 0 11 i19 a4) 0 14 i21 (-1)) 0 15 i23 (-1)) 0 16 i25 (-1)).1 0 0 11 + 1)).1 0 0 11 - 1, sx (sx (sx (sx (sx (sx (sx (sx (sx τ 0 12 i11 v) 0 13 i13 (-1)) 0 9 i15 a2) 0 10 i17 a3) 0 11 i19 a4) 0 14 i21 (-1)) 0 15 i23 (-1)) 0 16 i25 (-1)) 0 0 11 ((sx (sx (sx (sx (sx (sx (sx (sx τ 0 12 i11 v) 0 13 i13 (-1)) 0 9 i15 a2) 0 10 i17 a3) 0 11 i19 a4) 0 14 i21 (-1)) 0 15 i23 (-1)) 0 16 i25 (-1)).1 0 0 11 + 1))) = some (nI (N 2), nqM τ (N 2) v a2 a3 a4) := by
    intro v hlt
    simp [ix_nI hlt (show 40 < 2 ^ 31 by decide), sx_1, hq.2.1, nI_1, nI_pred, nqM]
  by_cases hm : a1 = -1
  · subst hm
    simp only [if_true, postAt_m1, obs, oen, if_pos (show (-1 : Int32) < 0 by decide)]
    exact main none _ _ _ _ (fun p e => by cases e) rfl rfl (hKi none) (hMi (-1))
  · simp only [if_neg hm]
    rcases in_or a1 (n := N 1) (by omega) with ⟨p, hpp, rfl⟩ | ⟨hno, -⟩
    · rw [postAt_t hp hpp, isPost_t hp hpp]
      simp only [obs, oes, if_neg (show ¬ (1 : Int32) = 0 by decide), if_neg (nI_pos (show p < 2 ^ 31 by omega))]
      obtain ⟨b, hb, hb1, hb2⟩ := vac_eq hp hq hpp
      simp only [hb1, hb2, obs]
      cases b
      · simp only [Bool.false_eq_true, if_false, if_true]
        exact ⟨_, _, _, _, rfl, rfl, rf 3⟩
      · simp only [if_true, if_neg (show ¬ (1 : Int32) = 0 by decide)]
        exact main (some p) _ _ _ _ (fun q e => by cases e; exact ⟨hpp, hb.mp rfl⟩) rfl rfl (hKi (some p)) (hMi (nI p))
    · rw [postAt_f hp hno, isPost_f hp hno]
      simp only [obs, oen, if_true]
      exact ⟨_, _, _, _, rfl, rfl, rf 1⟩
