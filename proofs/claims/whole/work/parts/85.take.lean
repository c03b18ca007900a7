/-! ===== pools, poolOf; the people of a pool ===== -/
theorem cnt_mono {p : Nat → Bool} {i : Nat} : ∀ {n : Nat}, i ≤ n → cnt p i ≤ cnt p n
  | 0, h => by have : i = 0 := by omega
               subst this; exact Nat.le_refl _
  | n + 1, h => by
    by_cases e : i = n + 1
    · subst e; exact Nat.le_refl _
    · have := cnt_mono (p := p) (i := i) (n := n) (by omega)
      show _ ≤ cnt p n + _
      omega
theorem cnt_lt {p : Nat → Bool} {i n : Nat} (h : i < n) (hp : p i = true) : cnt p i < cnt p n := by
  have h1 := cnt_mono (p := p) (i := i + 1) (n := n) (by omega)
  have h2 : cnt p (i + 1) = cnt p i + 1 := by show cnt p i + _ = _; rw [hp]; rfl
  omega
section Take
variable {σ τ : St} {U P Q T R L E : Nat}
set_option maxHeartbeats 400000 in
theorem p_join_ok (h : InvB σ τ U P Q T R L E) {u : Nat} (huu : u < U) {ℓ : Nat → Nat} (hL : PLS (inB σ τ u) (lkB τ) P ℓ) : OK (p_Pools_join σ (nI u)) (fun σ' => FrC σ σ' ∧ σ'.1 0 2 5 = nI (cnt (rtb (inB σ τ u) ℓ) P) ∧ ∀ q, q < P → σ'.1 0 15 q = pn (inB σ τ u) ℓ q) := by
  have hp := h.2.2.1
  have hP := hp.1
  unfold p_Pools_join
  rw [fill_eq σ 15 40 (-1) (by decide), obs, lt1_eq]
  refine OK.bi (OK.mono (R := fun σ' => FrC σ σ' ∧ σ'.1 0 2 5 = nI (cnt (rtb (inB σ τ u) ℓ) P) ∧ ∀ q, q < P → σ'.1 0 15 q = pn (inB σ τ u) ℓ q) ?_ (fun s hs' => OK.so hs'))
  refine OK.itr P (fun i s => s.1 = nI i ∧ FrC σ s.2 ∧ s.2.1 0 2 5 = nI (cnt (rtb (inB σ τ u) ℓ) i) ∧ ∀ q, q < P → s.2.1 0 15 q = if inB σ τ u q && decide (ℓ q < i) then nI (cnt (rtb (inB σ τ u) ℓ) (ℓ q)) else -1) ⟨rfl, ((Fr.refl σ).fl (fun k _ => rfl)).sx rfl, rfl, fun q hq => ?_⟩ (fun i s hi hs' => ?_) (fun s hs' => ?_) (FU_lt (by omega))
  · have : ¬ (inB σ τ u q && decide (ℓ q < 0)) = true := by simp
    rw [if_neg this]
    show (fl σ 15 40 (-1)).1 0 15 q = -1
    rw [fl_1, if_pos ⟨rfl, rfl, by omega⟩]
  · obtain ⟨i', σ1⟩ := s
    obtain ⟨e1, hf, h25, h15⟩ := hs'
    simp only at e1 hf h25 h15 ⊢
    subst e1
    have h1 := h.frC hf
    rw [(hf 0 1 2 rfl).1, hp.2.2.1, if_pos (nI_lt hi (show P < 2 ^ 31 by omega)), postAt_t h1.2.2.1 hi]
    simp only [obs, oes, p_free_eq h hf huu hi, nI_1]
    have hfr : (decide (σ1.1 0 15 i < 0) && inB σ τ u i) = rtb (inB σ τ u) ℓ i := by
      unfold rtb
      rw [h15 i hi]
      cases hc : inB σ τ u i with
      | false => simp
      | true =>
        have h2 := (hL.1 i hi hc).1
        by_cases c : ℓ i < i
        · have e2 : ¬ ℓ i = i := by omega
          have e3 : cnt (rtb (inB σ τ u) ℓ) (ℓ i) ≤ ℓ i := cnt_le
          rw [decide_eq_true c, Bool.and_self, if_pos rfl, decide_eq_false e2, decide_eq_false (nI_pos (by omega))]
          rfl
        · have e2 : ℓ i = i := by omega
          rw [decide_eq_false c, Bool.and_false, decide_eq_true e2]
          rfl
    rw [hfr]
    cases hr : rtb (inB σ τ u) ℓ i with
    | false =>
      simp only [Bool.false_eq_true, if_false, if_true, obs]
      refine OK.so ⟨rfl, hf, ?_, fun q hq => ?_⟩
      · rw [cnt_step, hr]; exact h25
      · show σ1.1 0 15 q = _
        rw [h15 q hq]
        cases hc : inB σ τ u q with
        | false => rfl
        | true =>
          have e : decide (ℓ q < i) = decide (ℓ q < i + 1) := by
            rw [decide_eq_decide]
            refine ⟨fun c => by omega, fun c => ?_⟩
            by_cases e : ℓ q = i
            · exfalso
              have hi2 : inB σ τ u i = true := by rw [← e]; exact (hL.1 q hq hc).2
              have := hL.idem hq hc
              rw [e] at this
              unfold rtb at hr
              rw [hi2, decide_eq_true this] at hr
              cases hr
            · omega
          rw [e]
    | true =>
      simp only [if_true, if_neg (show ¬ (1 : Int32) = 0 by decide)]
      have hcb : cnt (rtb (inB σ τ u) ℓ) i ≤ i := cnt_le
      obtain ⟨σ2, k1, k2, k3, k4⟩ := p_spread_ok h huu hL hi hr hf h25 (by omega) h15
      rw [k1]
      simp only [obs, lt1_eq]
      refine OK.so ⟨rfl, k2.sx rfl, ?_, fun q hq => ?_⟩
      · show (sx σ2 0 2 5 (σ2.1 0 2 5 + 1)).1 0 2 5 = _
        rw [sx_1, if_pos ⟨rfl, rfl, rfl⟩, k3, cnt_step, hr, if_pos rfl]
      · show σ2.1 0 15 q = _
        rw [k4 q hq]
        cases hc : inB σ τ u q with
        | false => rfl
        | true =>
          simp only [Bool.true_and, decide_eq_true_iff]
          by_cases c1 : ℓ q < i
          · rw [if_pos c1, if_pos (show ℓ q < i + 1 by omega)]
          · rw [if_neg c1]
            by_cases c2 : ℓ q = i
            · rw [if_pos c2, if_pos (show ℓ q < i + 1 by omega), c2]
            · rw [if_neg c2, if_neg (show ¬ ℓ q < i + 1 by omega)]
  · obtain ⟨i', σ1⟩ := s
    obtain ⟨e1, hf, h25, h15⟩ := hs'
    simp only at e1 hf h25 h15 ⊢
    subst e1
    rw [(hf 0 1 2 rfl).1, hp.2.2.1, if_neg (nI_nlt (Nat.le_refl P) (show P < 2 ^ 31 by omega))]
    refine OK.so ⟨hf, h25, fun q hq => ?_⟩
    rw [h15 q hq]
    unfold pn
    cases hc : inB σ τ u q with
    | false => rfl
    | true =>
      have := (hL.1 q hq hc).1
      rw [decide_eq_true (show ℓ q < P by omega)]
      rfl
theorem pools_both (h : InvB σ τ U P Q T R L E) {u : Nat} (huu : u < U) : ∃ (g : Nat → Int32) (n : Nat) (σ' τ' : St), p_Pools_join σ (nI u) = some σ' ∧ m_findPools τ (nI u) = some (nI n, τ') ∧ FrC σ σ' ∧ FrM τ τ' ∧ σ'.1 0 2 5 = nI n ∧ n ≤ 40 ∧ (∀ p, p < P → σ'.1 0 15 p = g p ∧ τ'.1 0 27 p = g p) ∧ ∀ p, p < P → g p = -1 ∨ ∃ c, c < n ∧ g p = nI c := by
  have hP := h.2.2.1.1
  obtain ⟨⟨n', τ'⟩, a1, ℓ, a2, a3, a4, a5⟩ := m_pools_ok h huu
  obtain ⟨σ', b1, b2, b3, b4⟩ := p_join_ok h huu a2
  have hn : cnt (rtb (inB σ τ u) ℓ) P ≤ P := cnt_le
  simp only at a3
  subst a3
  refine ⟨pn (inB σ τ u) ℓ, cnt (rtb (inB σ τ u) ℓ) P, σ', τ', b1, a1, b2, a4, b3, by omega, fun p hp => ⟨b4 p hp, a5 p hp⟩, fun p hp => ?_⟩
  unfold pn
  cases hc : inB σ τ u p with
  | false => exact Or.inl rfl
  | true =>
    refine Or.inr ⟨cnt (rtb (inB σ τ u) ℓ) (ℓ p), ?_, rfl⟩
    obtain ⟨k1, k2⟩ := a2.1 p hp hc
    refine cnt_lt (by omega) ?_
    unfold rtb
    rw [k2, decide_eq_true (a2.idem hp hc)]
    rfl
end Take
theorem s_pools : S_pools Inv := by
  intro σ τ N a1 hI
  obtain ⟨U, L, E, h⟩ := id hI
  obtain ⟨hs, hu, hp, hq, ht, hr, hl, he⟩ := id h
  have hU := hu.1
  simp only [p_PE_pools, m_pools, bind_pair, p_r1, m_r1]
  rcases in_or a1 (n := U) (by omega) with ⟨u, huu, rfl⟩ | ⟨hno, hout⟩
  · obtain ⟨g, n, σ', τ', c1, c2, c3, c4, c5, c6, c7, c8⟩ := pools_both h huu
    rw [p_isUnit_t hu huu, m_isUnit_t hu huu, c1, c2]
    simp only [obs, if_neg (show ¬ (1 : Int32) = 0 by decide), c5]
    exact ⟨_, _, _, rfl, rfl, hI.fr c3 c4⟩
  · rw [p_isUnit_f hu hno, m_isUnit_f hu hno]
    simp only [obs, if_true]
    exact ⟨_, _, _, rfl, rfl, inv_rf hI 1⟩
theorem s_poolOf : S_poolOf Inv := by
  intro σ τ N a1 a2 hI
  obtain ⟨U, L, E, h⟩ := id hI
  obtain ⟨hs, hu, hp, hq, ht, hr, hl, he⟩ := id h
  have hU := hu.1
  have hP := hp.1
  simp only [p_PE_poolOf, m_poolOf, bind_pair, p_r1, m_r1]
  rcases in_or a1 (n := U) (by omega) with ⟨u, huu, rfl⟩ | ⟨hno, hout⟩
  · rw [p_isUnit_t hu huu, m_isUnit_t hu huu]
    rcases in_or a2 (n := N 1) (by omega) with ⟨p, hpp, rfl⟩ | ⟨hno, -⟩
    · obtain ⟨g, n, σ', τ', c1, c2, c3, c4, c5, c6, c7, c8⟩ := pools_both h huu
      rw [postAt_t hp hpp, isPost_t hp hpp, c1, c2]
      simp only [obs, oes, if_neg (show ¬ (1 : Int32) = 0 by decide), p_joinedAs_eq (h.frC c3).2.2.1 hpp, ix_nI (show p < 40 by omega) (show 40 < 2 ^ 31 by decide), (c7 p hpp).1, (c7 p hpp).2]
      by_cases hg : g p < 0
      · simp only [if_pos hg]; exact ⟨_, _, _, rfl, rfl, hI.fr c3 c4⟩
      · simp only [if_neg hg]; exact ⟨_, _, _, rfl, rfl, hI.fr c3 c4⟩
    · rw [postAt_f hp hno, isPost_f hp hno]
      simp only [obs, oen, if_true, if_neg (show ¬ (1 : Int32) = 0 by decide)]
      exact ⟨_, _, _, rfl, rfl, inv_rf hI 1⟩
  · rw [p_isUnit_f hu hno, m_isUnit_f hu hno]
    simp only [obs, if_true]
    rcases in_or a2 (n := N 1) (by omega) with ⟨p, hpp, rfl⟩ | ⟨hno, -⟩
    · rw [postAt_t hp hpp]
      simp only [obs, oes]
      exact ⟨_, _, _, rfl, rfl, inv_rf hI 1⟩
    · rw [postAt_f hp hno]
      simp only [obs, oen]
      exact ⟨_, _, _, rfl, rfl, inv_rf hI 1⟩
