/-! ===== refusals, numbers of things ===== -/
def rfC (σ : St) (c : Nat) : St := sx σ 0 8 c (σ.1 0 8 c + 1)
def rfM (τ : St) (c : Nat) : St := sx τ 0 18 c (τ.1 0 18 c + 1)
theorem p_r1 (σ : St) : p_PE_refuse σ (-1) = some (-1, rfC σ 1) := rfl
theorem p_r2 (σ : St) : p_PE_refuse σ (-2) = some (-2, rfC σ 2) := rfl
theorem p_r3 (σ : St) : p_PE_refuse σ (-3) = some (-3, rfC σ 3) := rfl
theorem p_r4 (σ : St) : p_PE_refuse σ (-4) = some (-4, rfC σ 4) := rfl
theorem p_r6 (σ : St) : p_PE_refuse σ (-6) = some (-6, rfC σ 6) := rfl
theorem m_r1 (τ : St) : m_refuse τ (-1) = some (-1, rfM τ 1) := rfl
theorem m_r2 (τ : St) : m_refuse τ (-2) = some (-2, rfM τ 2) := rfl
theorem m_r3 (τ : St) : m_refuse τ (-3) = some (-3, rfM τ 3) := rfl
theorem m_r4 (τ : St) : m_refuse τ (-4) = some (-4, rfM τ 4) := rfl
theorem m_r6 (τ : St) : m_refuse τ (-6) = some (-6, rfM τ 6) := rfl
theorem p_f1 (σ : St) : p_PE_refuseFar σ (-1) = some ((1000000000 : Int32) - (-1), rfC σ 1) := by unfold p_PE_refuseFar; rw [p_r1]; rfl
theorem p_f3 (σ : St) : p_PE_refuseFar σ (-3) = some ((1000000000 : Int32) - (-3), rfC σ 3) := by unfold p_PE_refuseFar; rw [p_r3]; rfl
theorem p_f4 (σ : St) : p_PE_refuseFar σ (-4) = some ((1000000000 : Int32) - (-4), rfC σ 4) := by unfold p_PE_refuseFar; rw [p_r4]; rfl
theorem p_f6 (σ : St) : p_PE_refuseFar σ (-6) = some ((1000000000 : Int32) - (-6), rfC σ 6) := by unfold p_PE_refuseFar; rw [p_r6]; rfl
theorem m_f1 (τ : St) : m_refuseFar τ (-1) = some ((1000000000 : Int32) - (-1), rfM τ 1) := rfl
theorem m_f3 (τ : St) : m_refuseFar τ (-3) = some ((1000000000 : Int32) - (-3), rfM τ 3) := rfl
theorem m_f4 (τ : St) : m_refuseFar τ (-4) = some ((1000000000 : Int32) - (-4), rfM τ 4) := rfl
theorem m_f6 (τ : St) : m_refuseFar τ (-6) = some ((1000000000 : Int32) - (-6), rfM τ 6) := rfl
theorem inv_rfB {σ τ : St} {U P Q T R L E : Nat} (h : InvB σ τ U P Q T R L E) (c : Nat) : InvB (rfC σ c) (rfM τ c) U P Q T R L E := by
  refine ⟨⟨h.1.1, h.1.2.1, h.1.2.2.1, h.1.2.2.2.1, h.1.2.2.2.2.1, h.1.2.2.2.2.2.1, h.1.2.2.2.2.2.2.1, h.1.2.2.2.2.2.2.2.1, h.1.2.2.2.2.2.2.2.2.1, fun i hi => ?_⟩, h.2.1, h.2.2.1, h.2.2.2.1, h.2.2.2.2.1, h.2.2.2.2.2.1, h.2.2.2.2.2.2.1, h.2.2.2.2.2.2.2⟩
  have h7 := h.1.2.2.2.2.2.2.2.2.2
  unfold rfC rfM
  rw [sx_1, sx_1]
  by_cases e : i = c
  · subst e; simp [h7 i hi]
  · simp [e, h7 i hi]
theorem inv_rf {σ τ : St} {N : Nat → Nat} (h : Inv σ τ N) (c : Nat) : Inv (rfC σ c) (rfM τ c) N := by
  obtain ⟨U, L, E, h⟩ := h
  exact ⟨U, L, E, inv_rfB h c⟩
theorem m_in_eq (a lo hi : Int32) : m_in a lo hi = some (bI (lo ≤ a ∧ a ≤ hi)) := by
  unfold m_in
  by_cases h1 : a < lo
  · rw [if_pos h1, bI_f (fun h => Int32.not_lt.mpr h.1 h1)]
  · rw [if_neg h1]
    by_cases h2 : hi < a
    · rw [if_pos h2, bI_f (fun h => Int32.not_lt.mpr h.2 h2)]
    · rw [if_neg h2, bI_t ⟨Int32.not_lt.mp h1, Int32.not_lt.mp h2⟩]
theorem m_in_t {a lo hi : Int32} (h1 : lo ≤ a) (h2 : a ≤ hi) : m_in a lo hi = some 1 := by rw [m_in_eq, bI_t ⟨h1, h2⟩]
theorem m_in_f {a lo hi : Int32} (h : ¬ (lo ≤ a ∧ a ≤ hi)) : m_in a lo hi = some 0 := by rw [m_in_eq, bI_f h]
theorem in0_t {k n : Nat} (hk : k < n) (hn : n < 2 ^ 30) : m_in (nI k) 0 (nI n - 1) = some 1 := by
  refine m_in_t (nI_pos' (by omega)) ?_
  obtain ⟨m, rfl⟩ : ∃ m, n = m + 1 := ⟨n - 1, by omega⟩
  rw [nI_pred]
  exact nI_le (by omega) (by omega)
theorem in0_f {a : Int32} {n : Nat} (hn : n < 2 ^ 30) (h : ∀ k, k < n → a ≠ nI k) : m_in a 0 (nI n - 1) = some 0 := by
  refine m_in_f (fun hh => ?_)
  obtain ⟨j, hj, e⟩ := nI_of (Int32.not_lt.mpr hh.1)
  subst e
  have h2 := hh.2
  rcases Nat.eq_zero_or_pos n with e | e
  · subst e
    rw [i_le, nI_toInt hj] at h2
    have : (nI 0 - 1).toInt = -1 := by decide
    omega
  · obtain ⟨m, rfl⟩ : ∃ m, n = m + 1 := ⟨n - 1, by omega⟩
    rw [nI_pred, nI_leI hj (by omega)] at h2
    exact h j (by omega) rfl
section Nums
variable {σ τ : St} {U P Q T R L E : Nat}
theorem isPerson_t (h : IPe σ τ P Q T) {k : Nat} (hk : k < Q) : m_isPerson τ (nI k) = some 1 := by
  unfold m_isPerson
  rw [h.2.1, in0_t hk (by have := h.1; omega)]
  rfl
theorem isPerson_f (h : IPe σ τ P Q T) {a : Int32} (ha : ∀ k, k < Q → a ≠ nI k) : m_isPerson τ a = some 0 := by
  unfold m_isPerson
  rw [h.2.1, in0_f (by have := h.1; omega) ha]
  rfl
theorem personAt_t (h : IPe σ τ P Q T) {k : Nat} (hk : k < Q) : p_Firm_personAt σ (nI k) = some (some k) := by
  have hQ := h.1
  unfold p_Firm_personAt
  rw [if_neg (nI_pos (by omega)), h.2.2.1, if_pos (nI_lt hk (by omega)), ix_nI (by omega) (by decide)]
  show some (σ.2 0 11 k) = _
  rw [(h.2.2.2 k hk).1]
theorem personAt_f (h : IPe σ τ P Q T) {a : Int32} (ha : ∀ k, k < Q → a ≠ nI k) : p_Firm_personAt σ a = some none := by
  have hQ := h.1
  unfold p_Firm_personAt
  rcases pk_ix a (n := Q) (by omega) with h1 | h1 | ⟨j, hj, e⟩
  · rw [if_pos h1]
  · by_cases h2 : a < 0
    · rw [if_pos h2]
    · rw [if_neg h2, h.2.2.1, if_neg (Int32.not_lt.mpr h1)]
  · exact absurd e (ha j hj)
theorem isPost_t (h : IPo σ τ U P Q) {k : Nat} (hk : k < P) : m_isPost τ (nI k) = some 1 := by
  unfold m_isPost
  rw [h.2.1, in0_t hk (by have := h.1; omega)]
  rfl
theorem isPost_f (h : IPo σ τ U P Q) {a : Int32} (ha : ∀ k, k < P → a ≠ nI k) : m_isPost τ a = some 0 := by
  unfold m_isPost
  rw [h.2.1, in0_f (by have := h.1; omega) ha]
  rfl
theorem postAt_t (h : IPo σ τ U P Q) {k : Nat} (hk : k < P) : p_Firm_postAt σ (nI k) = some (some k) := by
  have hQ := h.1
  unfold p_Firm_postAt
  rw [if_neg (nI_pos (by omega)), h.2.2.1, if_pos (nI_lt hk (by omega)), ix_nI (by omega) (by decide)]
  show some (σ.2 0 10 k) = _
  rw [(h.2.2.2 k hk).1]
theorem postAt_f (h : IPo σ τ U P Q) {a : Int32} (ha : ∀ k, k < P → a ≠ nI k) : p_Firm_postAt σ a = some none := by
  have hQ := h.1
  unfold p_Firm_postAt
  rcases pk_ix a (n := P) (by omega) with h1 | h1 | ⟨j, hj, e⟩
  · rw [if_pos h1]
  · by_cases h2 : a < 0
    · rw [if_pos h2]
    · rw [if_neg h2, h.2.2.1, if_neg (Int32.not_lt.mpr h1)]
  · exact absurd e (ha j hj)
theorem isTelling_t (h : ITe σ τ Q T R) {k : Nat} (hk : k < T) : m_isTelling τ (nI k) = some 1 := by
  unfold m_isTelling
  rw [h.2.1, in0_t hk (by have := h.1; omega)]
  rfl
theorem isTelling_f (h : ITe σ τ Q T R) {a : Int32} (ha : ∀ k, k < T → a ≠ nI k) : m_isTelling τ a = some 0 := by
  unfold m_isTelling
  rw [h.2.1, in0_f (by have := h.1; omega) ha]
  rfl
theorem tellingAt_t (h : ITe σ τ Q T R) {k : Nat} (hk : k < T) : p_Firm_tellingAt σ (nI k) = some (some k) := by
  have hQ := h.1
  unfold p_Firm_tellingAt
  rw [if_neg (nI_pos (by omega)), h.2.2.1, if_pos (nI_lt hk (by omega)), ix_nI (by omega) (by decide)]
  show some (σ.2 0 12 k) = _
  rw [(h.2.2.2 k hk).1]
theorem tellingAt_f (h : ITe σ τ Q T R) {a : Int32} (ha : ∀ k, k < T → a ≠ nI k) : p_Firm_tellingAt σ a = some none := by
  have hQ := h.1
  unfold p_Firm_tellingAt
  rcases pk_ix a (n := T) (by omega) with h1 | h1 | ⟨j, hj, e⟩
  · rw [if_pos h1]
  · by_cases h2 : a < 0
    · rw [if_pos h2]
    · rw [if_neg h2, h.2.2.1, if_neg (Int32.not_lt.mpr h1)]
  · exact absurd e (ha j hj)
theorem m_isUnit_t (h : IUn σ τ U) {k : Nat} (hk : k < U) : m_isUnit τ (nI k) = some 1 := by
  unfold m_isUnit
  rw [h.2.1, in0_t hk (by have := h.1; omega)]
  rfl
theorem m_isUnit_f (h : IUn σ τ U) {a : Int32} (ha : ∀ k, k < U → a ≠ nI k) : m_isUnit τ a = some 0 := by
  unfold m_isUnit
  rw [h.2.1, in0_f (by have := h.1; omega) ha]
  rfl
theorem p_isUnit_t (h : IUn σ τ U) {k : Nat} (hk : k < U) : p_Firm_isUnit σ (nI k) = some 1 := by
  have hU := h.1
  unfold p_Firm_isUnit
  rw [if_neg (nI_pos (by omega)), h.2.2.1, if_pos (nI_lt hk (by omega))]
theorem p_isUnit_f (h : IUn σ τ U) {a : Int32} (ha : ∀ k, k < U → a ≠ nI k) : p_Firm_isUnit σ a = some 0 := by
  have hU := h.1
  unfold p_Firm_isUnit
  rcases pk_ix a (n := U) (by omega) with h1 | h1 | ⟨j, hj, e⟩
  · rw [if_pos h1]
  · by_cases h2 : a < 0
    · rw [if_pos h2]
    · rw [if_neg h2, h.2.2.1, if_neg (Int32.not_lt.mpr h1)]
  · exact absurd e (ha j hj)
end Nums
