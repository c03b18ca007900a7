/-! ===== right ===== -/
def nrC (σ : St) (R t : Nat) (v : Int32) : St := sx (sy (sy (sx (sx (clr (sx σ 0 1 5 (nI (R + 1))) 4 R) 4 R 0 (σ.1 0 1 0)) 4 R 1 v) 4 R 2 (σ.2 3 t 5)) 3 t 5 (some R)) 3 t 6 (σ.1 3 t 6 + 1)
def nrM (τ : St) (R t : Nat) (v : Int32) : St := sx (sx (sx (sx τ 0 23 R (nI t)) 0 24 R v) 0 25 R (τ.1 0 0 0)) 0 0 30 (nI (R + 1))
theorem inv_right {σ τ : St} {U P Q T R L E : Nat} (h : InvB σ τ U P Q T R L E) {t : Nat} (htt : t < T) {v : Int32} (hR : R < 60) (hv : Rg 0 (if τ.1 0 20 t = 0 then 100 else 9) v) : InvB (nrC σ R t v) (nrM τ R t v) U P Q T (R + 1) L E := by
  obtain ⟨hs, hu, hp, hq, ht, hr, hl, he⟩ := h
  have hT := ht.1
  have m23 : ∀ j, j ≠ R → (nrM τ R t v).1 0 23 j = τ.1 0 23 j := fun j hj => by simp [nrM, sx_1, hj]
  have m24 : ∀ j, j ≠ R → (nrM τ R t v).1 0 24 j = τ.1 0 24 j := fun j hj => by simp [nrM, sx_1, hj]
  have m25 : ∀ j, j ≠ R → (nrM τ R t v).1 0 25 j = τ.1 0 25 j := fun j hj => by simp [nrM, sx_1, hj]
  have m23' : (nrM τ R t v).1 0 23 R = nI t := by simp [nrM, sx_1]
  have m24' : (nrM τ R t v).1 0 24 R = v := by simp [nrM, sx_1]
  have m25' : (nrM τ R t v).1 0 25 R = τ.1 0 0 0 := by simp [nrM, sx_1]
  have c1 : ∀ j, j ≠ t → (nrC σ R t v).1 3 j = σ.1 3 j := fun j hj => by funext i; simp [nrC, clr, sx_1, sy_1, hj]
  have c2 : ∀ j, j ≠ t → (nrC σ R t v).2 3 j = σ.2 3 j := fun j hj => by funext i; simp [nrC, clr, sx_2, sy_2, hj]
  have c3 : ∀ j, j ≠ R → (nrC σ R t v).1 4 j = σ.1 4 j := fun j hj => by funext i; simp [nrC, clr, sx_1, sy_1, hj]
  have c4 : ∀ j, j ≠ R → (nrC σ R t v).2 4 j = σ.2 4 j := fun j hj => by funext i; simp [nrC, clr, sx_2, sy_2, hj]
  have k1 : ∀ i, i ≠ 6 → (nrC σ R t v).1 3 t i = σ.1 3 t i := fun i hi => by simp [nrC, clr, sx_1, sy_1, hi]
  have k2 : ∀ i, i ≠ 5 → (nrC σ R t v).2 3 t i = σ.2 3 t i := fun i hi => by simp [nrC, clr, sx_2, sy_2, hi]
  have rk1 : ∀ t' i, i < R → rk (nrM τ R t v) t' i = rk τ t' i := fun t' i hi => by unfold rk; rw [m23 i (by omega)]
  have rkR : ∀ t', t' < T → (rk (nrM τ R t v) t' R = true ↔ t' = t) := by
    intro t' ht'
    unfold rk
    rw [m23', decide_eq_true_iff]
    exact ⟨fun e => (nI_inj (by omega) (by omega) e).symm, fun e => by rw [e]⟩
  have lb : ∀ t' n, n ≤ R → lastB (rk (nrM τ R t v) t') n = lastB (rk τ t') n := fun t' n hn => lastB_cong (fun i hi => rk1 t' i (by omega))
  refine ⟨hs, hu, hp, hq, ⟨ht.1, ht.2.1, ht.2.2.1, fun t' ht' => ?_⟩, ⟨by omega, rfl, rfl, fun r hrr => ?_⟩, hl, he⟩
  · obtain ⟨b1, b2, b3, b4, b5, b6, b7, b8, b9, b10⟩ := ht.2.2.2 t' ht'
    unfold ITe1
    by_cases e : t' = t
    · subst e
      rw [k1 1 (by decide), k1 2 (by decide), k1 3 (by decide), k2 0 (by decide), k2 4 (by decide)]
      refine ⟨b1, b2, b3, b4, b5, b6, b7, b8, ?_, ?_⟩
      · unfold lastB
        rw [if_pos ((rkR t' ht').mpr rfl)]
        simp [nrC, sx_2, sy_2]
      · unfold cnt
        rw [(rkR t' ht').mpr rfl, cnt_cong (fun i hi => rk1 t' i hi), if_pos rfl, ← nI_1, ← b10]
        simp [nrC, sx_1, sy_1]
    · rw [c1 t' e, c2 t' e]
      refine ⟨b1, b2, b3, b4, b5, b6, b7, b8, ?_, ?_⟩
      · unfold lastB
        rw [if_neg (fun c => e ((rkR t' ht').mp c)), lb t' R (Nat.le_refl _)]
        exact b9
      · unfold cnt
        rw [cnt_cong (fun i hi => rk1 t' i hi), if_neg (fun c => e ((rkR t' ht').mp c))]
        exact b10
  · by_cases e : r = R
    · subst e
      unfold IRi1
      rw [m23', m24', m25']
      refine ⟨⟨t, htt, rfl, ?_, hv⟩, ?_, by simp [nrC, sx_1, sy_1], ⟨hs.2.1.1, Int.le_refl _⟩⟩
      · rw [lb t r (Nat.le_refl _), ← (ht.2.2.2 t htt).2.2.2.2.2.2.2.2.1]
        simp [nrC, sx_2, sy_2]
      · rw [← hs.1]; simp [nrC, sx_1, sy_1]
    · obtain ⟨⟨t', d1, d2, d3, d4⟩, b2, b3, b4⟩ := hr.2.2.2 r (by omega)
      unfold IRi1
      rw [m23 r e, m24 r e, m25 r e, c3 r e, c4 r e]
      exact ⟨⟨t', d1, d2, by rw [lb t' r (by omega)]; exact d3, d4⟩, b2, b3, b4⟩
theorem m_putRight_eq {σ τ : St} {T R : Nat} (hr : IRi σ τ T R) (t : Nat) (v : Int32) : m_putRight τ (nI t) v = some (nrM τ R t v) := by
  have hR := hr.1
  unfold m_putRight
  simp [lt1_eq, ix_nI (show R < 61 by omega) (show 61 < 2 ^ 31 by decide), sx_1, hr.2.1, nI_1, nrM]
theorem s_right : S_right Inv := by
  intro σ τ N a1 a2 hI
  obtain ⟨U, L, E, h⟩ := id hI
  obtain ⟨hs, hu, hp, hq, ht, hr, hl, he⟩ := id h
  have hT := ht.1
  have hR := hr.1
  have rf : ∀ c, Inv (rfC σ c) (rfM τ c) (nup N 4 (N 4)) := fun c => by rw [nup_same]; exact inv_rf hI c
  simp only [p_PE_right, m_right, bind_pair, lt1_eq, p_r1, m_r1, p_r4, m_r4, p_r6, m_r6, obs, p_PE_mostTold]
  rcases in_or a1 (n := N 3) (by omega) with ⟨t, htt, rfl⟩ | ⟨hno, -⟩
  · rw [tellingAt_t ht htt, isTelling_t ht htt]
    obtain ⟨b1, b2, b3, b4, b5, b6, b7, b8, b9, b10⟩ := ht.2.2.2 t htt
    simp only [obs, oes, if_neg (show ¬ (1 : Int32) = 0 by decide), ix_nI (show t < 120 by omega) (show 120 < 2 ^ 31 by decide), b3]
    by_cases h1 : a2 < 0
    · simp only [if_pos h1]; exact ⟨_, _, _, _, rfl, rfl, rf 4⟩
    simp only [if_neg h1]
    obtain ⟨mx, e1, e2⟩ : ∃ mx : Int32, (if τ.1 0 20 t = 0 then some (100 : Int32) else some (9 : Int32)) = some mx ∧ mx.toInt = (if τ.1 0 20 t = 0 then 100 else 9) := by
      by_cases c : τ.1 0 20 t = 0
      · exact ⟨100, by rw [if_pos c], by rw [if_pos c]; rfl⟩
      · exact ⟨9, by rw [if_neg c], by rw [if_neg c]; rfl⟩
    simp only [e1, obs]
    by_cases h2 : mx < a2
    · simp only [if_pos h2]; exact ⟨_, _, _, _, rfl, rfl, rf 6⟩
    simp only [if_neg h2, hr.2.1, hr.2.2.1]
    by_cases h9 : N 4 = 60
    · rw [h9, if_neg (show ¬ nI 60 < 60 by decide), if_pos (show nI 60 = 60 from rfl)]
      exact ⟨_, _, _, _, rfl, rfl, by rw [← h9]; exact rf 6⟩
    have hlt : N 4 < 60 := by omega
    have g1 : nI (N 4) < (60 : Int32) := nI_lt (b := 60) hlt (by decide)
    have g2 : ¬ nI (N 4) = (60 : Int32) := fun e => h9 (nI_inj (by omega) (by decide) (b := 60) e)
    rw [if_pos g1, if_neg g2, m_putRight_eq hr]
    simp only [obs]
    have hI' := inv_right h htt hlt (Rg.mk h1 h2 rfl e2 : Rg 0 (if τ.1 0 20 t = 0 then 100 else 9) a2)
    have ep : p_Telling_putRight (sx σ 0 1 5 (nI (N 4) + 1)) (N 4) t ((sx σ 0 1 5 (nI (N 4) + 1)).1 0 1 0) a2 = some ((nI (cnt (rk (nrM τ (N 4) t a2) t) (N 4 + 1)), nrC σ (N 4) t a2), N 4 + 1) := by
      have := (hI'.2.2.2.2.1.2.2.2 t htt).2.2.2.2.2.2.2.2.2
      rw [← this]
      simp [p_Telling_putRight, p_Righting_init, lt1_eq, nrC, sx_1, sx_2, sy_1, sy_2, clr, nI_1]
    rw [ep]
    refine ⟨_, _, nrM τ (N 4) t a2, _, rfl, ?_, U, L, E, hI'⟩
    refine itr_bd (N 4 + 1) (fun i => (nI (cnt (rk (nrM τ (N 4) t a2) t) i), nI i)) (nI (cnt (rk (nrM τ (N 4) t a2) t) (N 4 + 1))) (FU_lt (by omega)) rfl (fun i hi => ?_) ?_ rfl
    · simp only
      have e3 : (nrM τ (N 4) t a2).1 0 0 30 = nI (N 4 + 1) := rfl
      rw [e3, if_pos (nI_lt hi (by omega)), ix_nI (show i < 61 by omega) (by decide)]
      simp only [obs, cnt, nI_1]
      by_cases c : (nrM τ (N 4) t a2).1 0 23 i = nI t
      · rw [if_pos c]
        have : rk (nrM τ (N 4) t a2) t i = true := decide_eq_true c
        rw [this, if_pos rfl]
        simp only [obs, nI_1]
      · rw [if_neg c]
        have : rk (nrM τ (N 4) t a2) t i = false := decide_eq_false c
        rw [this]
        simp
    · simp only
      have e3 : (nrM τ (N 4) t a2).1 0 0 30 = nI (N 4 + 1) := rfl
      rw [e3, if_neg (nI_nlt (Nat.le_refl _) (by omega))]
  · rw [tellingAt_f ht hno, isTelling_f ht hno]
    simp only [obs, oen, if_true]
    exact ⟨_, _, _, _, rfl, rfl, rf 1⟩
