/-! ===== the plain calls ===== -/
theorem Rg.mk {lo hi : Int} {x l h : Int32} (h1 : ¬ x < l) (h2 : ¬ h < x) (hl : l.toInt = lo) (hh : h.toInt = hi) : Rg lo hi x := by
  rw [i_lt] at h1 h2
  exact ⟨by omega, by omega⟩
theorem Rg.mono {lo hi hi' : Int} {x : Int32} (h : Rg lo hi x) (hh : hi ≤ hi') : Rg lo hi' x := ⟨h.1, Int.le_trans h.2 hh⟩
theorem bind_pair {α β : Type} (o : Option (α × β)) : (o.bind fun r => some (r.1, r.2)) = o := by cases o <;> rfl
theorem obs {α β : Type} (x : α) (f : α → Option β) : (some x).bind f = f x := rfl
theorem oes {α β : Type} (q : α) (X : β) (f : α → β) : Option.elim (some q) X f = f q := rfl
theorem oen {α β : Type} (X : β) (f : α → β) : Option.elim none X f = X := rfl
theorem inl_t {k c : Nat} (v : Int32) (hv : v = nI c) (h : k ≤ c) (hc : c < 2 ^ 30) : m_in (nI k) 0 v = some 1 := by rw [hv]; exact m_in_t (nI_pos' (by omega)) (nI_le h (by omega))
theorem inl_f {a : Int32} {c : Nat} (v : Int32) (hv : v = nI c) (hc : c < 2 ^ 30) (h : ∀ k, k ≤ c → a ≠ nI k) : m_in a 0 v = some 0 := by
  refine m_in_f (fun hh => ?_)
  obtain ⟨j, hj, e⟩ := nI_of (Int32.not_lt.mpr hh.1)
  subst e
  have h2 := hh.2
  rw [hv, nI_leI hj (by omega)] at h2
  exact h j h2 rfl
/-- the day goes on -/
theorem inv_day {σ τ : St} {U P Q T R L E : Nat} (h : InvB σ τ U P Q T R L E) {v : Int32} (h1 : (τ.1 0 0 0).toInt ≤ v.toInt) (h2 : v.toInt ≤ 3000) : InvB (sx σ 0 1 0 v) (sx τ 0 0 0 v) U P Q T R L E := by
  obtain ⟨hs, hu, hp, hq, ht, hr, hl, he⟩ := h
  refine ⟨⟨rfl, ⟨Int.le_trans hs.2.1.1 h1, h2⟩, hs.2.2⟩, hu, ⟨hp.1, hp.2.1, hp.2.2.1, fun p hpp => ?_⟩, ⟨hq.1, hq.2.1, hq.2.2.1, fun k hk => ?_⟩, ⟨ht.1, ht.2.1, ht.2.2.1, fun t htt => ?_⟩, ⟨hr.1, hr.2.1, hr.2.2.1, fun r hrr => ?_⟩, hl, he⟩
  · obtain ⟨a1, a2, a3, a4, a5, a6, a7, a8, a9, a10, a11, a12, a13, a14⟩ := hp.2.2.2 p hpp
    exact ⟨a1, a2, a3, a4, a5, a6, a7, a8, a9, a10, a11, a12, a13.mono h1, a14⟩
  · obtain ⟨a1, a2, a3, a4, a5, a6, a7, a8, a9, a10, a11, a12, a13⟩ := hq.2.2.2 k hk
    exact ⟨a1, a2, a3, a4, a5, a6, a7, a8, a9, a10.mono h1, a11, a12.mono h1, a13⟩
  · obtain ⟨a1, a2, a3, a4, a5, a6, a7, a8⟩ := ht.2.2.2 t htt
    exact ⟨a1, a2, a3, a4, a5, a6, a7.mono h1, a8⟩
  · obtain ⟨a1, a2, a3, a4⟩ := hr.2.2.2 r hrr
    exact ⟨a1, a2, a3, a4.mono h1⟩
theorem s_days : S_days Inv := by
  intro σ τ N a1 hI
  obtain ⟨U, L, E, h⟩ := id hI
  have hd := h.1.1
  simp only [p_PE_days, m_days, bind_pair, lt1_eq, hd]
  by_cases h1 : a1 < 1
  · simp only [if_pos h1, p_r4, m_r4]
    exact ⟨_, _, _, rfl, rfl, inv_rf hI 4⟩
  · simp only [if_neg h1]
    by_cases h2 : (3000 : Int32) - τ.1 0 0 0 < a1
    · simp only [if_pos h2, p_r6, m_r6]
      exact ⟨_, _, _, rfl, rfl, inv_rf hI 6⟩
    · simp only [if_neg h2]
      obtain ⟨r1, r2⟩ := h.1.2.1
      have e1 : ((3000 : Int32) - τ.1 0 0 0).toInt = 3000 - (τ.1 0 0 0).toInt := by
        rw [Int32.toInt_sub, show (3000 : Int32).toInt = 3000 from rfl, Int.bmod_eq_of_le (by omega) (by omega)]
      rw [i_lt, show (1 : Int32).toInt = 1 from rfl] at h1
      rw [i_lt, e1] at h2
      have e2 : (τ.1 0 0 0 + a1).toInt = (τ.1 0 0 0).toInt + a1.toInt := by
        rw [Int32.toInt_add, Int.bmod_eq_of_le (by omega) (by omega)]
      exact ⟨_, _, _, rfl, rfl, U, L, E, inv_day h (by omega) (by omega)⟩
theorem s_clear : S_clear Inv := by
  intro σ τ N hI
  obtain ⟨U, L, E, hs, hu, hp, hq, ht, hr, hl, he⟩ := id hI
  simp only [p_PE_clear, m_clear, lt1_eq]
  rw [hl.2.1, hl.2.2.1]
  exact ⟨_, _, _, rfl, rfl, U, 0, E, hs, hu, hp, hq, ht, hr, ⟨by decide, rfl, rfl, fun i hi => absurd hi (Nat.not_lt_zero _)⟩, he⟩
theorem s_weight : S_weight Inv := by
  intro σ τ N a1 a2 hI
  obtain ⟨U, L, E, hs, hu, hp, hq, ht, hr, hl, he⟩ := id hI
  simp only [p_PE_weight, m_weight, bind_pair, lt1_eq]
  rcases in_or a1 (n := 4) (by decide) with ⟨k, hk, rfl⟩ | ⟨hno, hout⟩
  · rw [inl_t 3 (c := 3) rfl (by omega) (by decide)]
    simp only [obs, if_neg (show ¬ (1 : Int32) = 0 by decide), if_neg (nI_pos (show k < 2 ^ 31 by omega)), if_pos (show nI k < 4 from nI_lt (b := 4) hk (by decide)), ix_nI hk (by decide)]
    by_cases h1 : a2 < 0
    · simp only [if_pos h1, p_r4, m_r4]
      exact ⟨_, _, _, rfl, rfl, inv_rf hI 4⟩
    · simp only [if_neg h1]
      by_cases h2 : (20 : Int32) < a2
      · simp only [if_pos h2, p_r6, m_r6]
        exact ⟨_, _, _, rfl, rfl, inv_rf hI 6⟩
      · simp only [if_neg h2, (hs.2.2.1 k hk).1]
        refine ⟨_, _, _, rfl, rfl, U, L, E, ⟨hs.1, hs.2.1, fun w hw => ?_, hs.2.2.2⟩, hu, hp, hq, ht, hr, hl, he⟩
        rw [sx_1, sx_1]
        by_cases e : w = k
        · subst e
          simp only [and_self, if_true]
          exact ⟨trivial, Rg.mk h1 h2 rfl rfl⟩
        · simp only [e, and_false, if_false]
          exact hs.2.2.1 w hw
  · rw [inl_f 3 (c := 3) rfl (by decide) (fun k hk => hno k (by omega))]
    simp only [obs, if_true]
    rw [m_r2]
    by_cases h1 : a1 < 0
    · rw [if_pos h1, p_r2]
      exact ⟨_, _, _, rfl, rfl, inv_rf hI 2⟩
    · rw [if_neg h1]
      have h4 : ¬ a1 < 4 := by
        rcases hout with h | h
        · exact absurd h h1
        · exact Int32.not_lt.mpr h
      rw [if_neg h4, p_r2]
      exact ⟨_, _, _, rfl, rfl, inv_rf hI 2⟩

theorem isHere_eq {σ τ : St} {P Q T : Nat} (h : IPe σ τ P Q T) {k : Nat} (hk : k < Q) : p_Person_isHere σ k = some (bI (τ.1 0 14 k < 0)) ∧ m_isHere τ (nI k) = some (bI (τ.1 0 14 k < 0)) := by
  have hQ := h.1
  have e := (h.2.2.2 k hk).2.2.2.2.2.1
  unfold p_Person_isHere m_isHere
  rw [e, ix_nI (by omega) (by decide), obs]
  by_cases hc : τ.1 0 14 k < 0
  · simp [hc, bI]
  · simp [hc, bI]
/-- one number of a person -/
theorem inv_until {σ τ : St} {U P Q T R L E : Nat} (h : InvB σ τ U P Q T R L E) {k : Nat} {v : Int32} (hv : Rg (-1) 9000 v) : InvB (sx σ 2 k 7 v) (sx τ 0 15 k v) U P Q T R L E := by
  obtain ⟨hs, hu, hp, hq, ht, hr, hl, he⟩ := h
  refine ⟨hs, hu, hp, ⟨hq.1, hq.2.1, hq.2.2.1, fun j hj => ?_⟩, ht, hr, hl, he⟩
  obtain ⟨a1, a2, a3, a4, a5, a6, a7, a8, a9, a10, a11, a12, a13, a14⟩ := hq.2.2.2 j hj
  by_cases e : j = k
  · subst e
    refine ⟨a1, (by simpa [sx_1, sx_2] using a2), (by simpa [sx_1, sx_2] using a3), (by simpa [sx_1, sx_2] using a4), (by simpa [sx_1, sx_2] using a5), (by simpa [sx_1, sx_2] using a6), ?_, (by simpa [sx_1, sx_2] using a8), a9, a10, a11, a12, ?_, a14⟩
    · rw [sx_1, sx_1]; simp
    · rw [sx_1]; simpa using hv
  · refine ⟨a1, (by simpa [sx_1, sx_2] using a2), (by simpa [sx_1, sx_2] using a3), (by simpa [sx_1, sx_2] using a4), (by simpa [sx_1, sx_2] using a5), (by simpa [sx_1, sx_2] using a6), ?_, (by simpa [sx_1, sx_2] using a8), a9, a10, a11, a12, ?_, a14⟩
    · rw [sx_1, sx_1]; simpa [e] using a7
    · rw [sx_1]; simpa [e] using a13
theorem inv_sum {σ τ : St} {U P Q T R L E : Nat} (h : InvB σ τ U P Q T R L E) {k : Nat} {v : Int32} (hv : Rg (-1) 99999 v) : InvB (sx σ 2 k 8 v) (sx τ 0 16 k v) U P Q T R L E := by
  obtain ⟨hs, hu, hp, hq, ht, hr, hl, he⟩ := h
  refine ⟨hs, hu, hp, ⟨hq.1, hq.2.1, hq.2.2.1, fun j hj => ?_⟩, ht, hr, hl, he⟩
  obtain ⟨a1, a2, a3, a4, a5, a6, a7, a8, a9, a10, a11, a12, a13, a14, a15⟩ := hq.2.2.2 j hj
  by_cases e : j = k
  · subst e
    refine ⟨a1, (by simpa [sx_1, sx_2] using a2), (by simpa [sx_1, sx_2] using a3), (by simpa [sx_1, sx_2] using a4), (by simpa [sx_1, sx_2] using a5), (by simpa [sx_1, sx_2] using a6), (by simpa [sx_1, sx_2] using a7), ?_, a9, a10, a11, a12, a13, ?_, a15⟩
    · rw [sx_1, sx_1]; simp
    · rw [sx_1]; simpa using hv
  · refine ⟨a1, (by simpa [sx_1, sx_2] using a2), (by simpa [sx_1, sx_2] using a3), (by simpa [sx_1, sx_2] using a4), (by simpa [sx_1, sx_2] using a5), (by simpa [sx_1, sx_2] using a6), (by simpa [sx_1, sx_2] using a7), ?_, a9, a10, a11, a12, a13, ?_, a15⟩
    · rw [sx_1, sx_1]; simpa [e] using a8
    · rw [sx_1]; simpa [e] using a14
theorem s_protect : S_protect Inv := by
  intro σ τ N a1 a2 hI
  obtain ⟨U, L, E, h⟩ := id hI
  have hq := h.2.2.2.1
  have hQ := hq.1
  simp only [p_PE_protect, m_protect, bind_pair, lt1_eq]
  rcases in_or a1 (n := N 2) (by omega) with ⟨k, hk, rfl⟩ | ⟨hno, -⟩
  · rw [personAt_t hq hk, isPerson_t hq hk]
    simp only [obs, oes, if_neg (show ¬ (1 : Int32) = 0 by decide), ix_nI (show k < 40 by omega) (by decide), p_f4, m_f4, p_f6, m_f6]
    by_cases h1 : a2 < -1
    · simp only [if_pos h1]
      exact ⟨_, _, _, rfl, rfl, inv_rf hI 4⟩
    · simp only [if_neg h1]
      by_cases h2 : (9000 : Int32) < a2
      · simp only [if_pos h2]
        exact ⟨_, _, _, rfl, rfl, inv_rf hI 6⟩
      · simp only [if_neg h2, (hq.2.2.2 k hk).2.2.2.2.2.2.1]
        exact ⟨_, _, _, rfl, rfl, U, L, E, inv_until h (Rg.mk h1 h2 rfl rfl)⟩
  · rw [personAt_f hq hno, isPerson_f hq hno]
    simp only [obs, oen, if_true, p_f1, m_f1]
    exact ⟨_, _, _, rfl, rfl, inv_rf hI 1⟩
theorem s_volunteer : S_volunteer Inv := by
  intro σ τ N a1 a2 hI
  obtain ⟨U, L, E, h⟩ := id hI
  have hq := h.2.2.2.1
  have hQ := hq.1
  simp only [p_PE_volunteer, m_volunteer, bind_pair, lt1_eq]
  rcases in_or a1 (n := N 2) (by omega) with ⟨k, hk, rfl⟩ | ⟨hno, -⟩
  · rw [personAt_t hq hk, isPerson_t hq hk]
    simp only [obs, oes, if_neg (show ¬ (1 : Int32) = 0 by decide), ix_nI (show k < 40 by omega) (by decide), p_f3, m_f3, p_f4, m_f4, p_f6, m_f6, (isHere_eq hq hk).1, (isHere_eq hq hk).2, bI_eq0]
    by_cases h0 : τ.1 0 14 k < 0
    · simp only [h0, not_true, if_false]
      by_cases h1 : a2 < -1
      · simp only [if_pos h1]
        exact ⟨_, _, _, rfl, rfl, inv_rf hI 4⟩
      · simp only [if_neg h1]
        by_cases h2 : (99999 : Int32) < a2
        · simp only [if_pos h2]
          exact ⟨_, _, _, rfl, rfl, inv_rf hI 6⟩
        · simp only [if_neg h2, (hq.2.2.2 k hk).2.2.2.2.2.2.2.1]
          exact ⟨_, _, _, rfl, rfl, U, L, E, inv_sum h (Rg.mk h1 h2 rfl rfl)⟩
    · simp only [h0, not_false_iff, if_true]
      exact ⟨_, _, _, rfl, rfl, inv_rf hI 3⟩
  · rw [personAt_f hq hno, isPerson_f hq hno]
    simp only [obs, oen, if_true, p_f1, m_f1]
    exact ⟨_, _, _, rfl, rfl, inv_rf hI 1⟩
