/-! ===== weeks: the least, and the last of several ===== -/
def IsMin (F : Nat → Nat) (a S v b : Nat) : Prop := a ≤ b ∧ b ≤ S ∧ F b = v ∧ (∀ c, a ≤ c → c ≤ S → v ≤ F c) ∧ ∀ c, b < c → c ≤ S → v < F c
theorem IsMin.uniq {F : Nat → Nat} {a S v b v' b' : Nat} (h : IsMin F a S v b) (h' : IsMin F a S v' b') : v = v' ∧ b = b' := by
  obtain ⟨h1, h2, h3, h4, h5⟩ := h
  obtain ⟨k1, k2, k3, k4, k5⟩ := h'
  have e : v = v' := by
    have := h4 b' k1 k2
    have := k4 b h1 h2
    omega
  refine ⟨e, ?_⟩
  rcases Nat.lt_trichotomy b b' with c | c | c
  · have := h5 b' c k2; omega
  · exact c
  · have := k5 b c h2; omega
def mb (F : Nat → Nat) (S : Nat) : Nat → Nat
  | 0 => S
  | n + 1 => if F (S - (n + 1)) < F (mb F S n) then S - (n + 1) else mb F S n
theorem mb_spec (F : Nat → Nat) (S : Nat) : ∀ n, n ≤ S → IsMin F (S - n) S (F (mb F S n)) (mb F S n)
  | 0, _ => by
    refine ⟨?_, Nat.le_refl _, rfl, fun c h1 h2 => ?_, fun c h1 h2 => ?_⟩
    · show S - 0 ≤ S
      omega
    · have : c = S := by omega
      subst this
      exact Nat.le_refl _
    · have : S < c := h1
      omega
  | n + 1, h => by
    obtain ⟨h1, h2, h3, h4, h5⟩ := mb_spec F S n (by omega)
    unfold mb
    by_cases c : F (S - (n + 1)) < F (mb F S n)
    · rw [if_pos c]
      refine ⟨Nat.le_refl _, by omega, rfl, fun x hx1 hx2 => ?_, fun x hx1 hx2 => ?_⟩
      · by_cases e : x = S - (n + 1)
        · rw [e]; exact Nat.le_refl _
        · have := h4 x (by omega) hx2; omega
      · have := h4 x (by omega) hx2; omega
    · rw [if_neg c]
      refine ⟨by omega, h2, rfl, fun x hx1 hx2 => ?_, h5⟩
      by_cases e : x = S - (n + 1)
      · rw [e]; omega
      · exact h4 x (by omega) hx2
/-- weeks of notice -/
def nb (n : Nat) : Nat := if n < 20 then 1 else if n < 100 then 5 else 7
def bnd (n : Nat) : Nat := if n < 20 then 0 else if n < 100 then 1 else 2
def nbb (b : Nat) : Nat := if b = 0 then 1 else if b = 1 then 5 else 7
theorem nb_bnd (n : Nat) : nbb (bnd n) = nb n := by
  unfold nbb bnd nb
  by_cases h1 : n < 20
  · rw [if_pos h1, if_pos h1]; rfl
  · rw [if_neg h1, if_neg h1]
    by_cases h2 : n < 100
    · rw [if_pos h2, if_pos h2]; rfl
    · rw [if_neg h2, if_neg h2]; rfl
theorem nb_le (n : Nat) : nb n ≤ 7 := by unfold nb; split; decide; split <;> decide
theorem bnd_le (n : Nat) : bnd n ≤ 2 := by unfold bnd; split; decide; split <;> decide
theorem bnd_mono {a b : Nat} (h : a ≤ b) : bnd a ≤ bnd b := by
  unfold bnd
  split
  · omega
  · split
    · rw [if_neg (by omega)]; split <;> omega
    · rw [if_neg (by omega), if_neg (by omega)]; omega
/-! a parting: how many, the last week, the step, the steps, what is left, how many were told by each week -/
abbrev WQ : Type := Nat × Nat × Nat × Nat × Nat × (Nat → Nat)
def wOk (c : WQ) : Prop := c.1 ≤ 200 ∧ c.2.1 ≤ 5 ∧ 1 ≤ c.2.2.1 ∧ c.2.2.1 ≤ 50 ∧ c.2.2.2.1 * c.2.2.1 + c.2.2.2.2.1 = c.1 ∧ ∀ k, c.2.2.2.2.2 k ≤ 30000
/-- what a week costs, if b steps are gone behind it and a were before -/
def wF (c : WQ) (k : Nat) (V : Nat → Nat) (a b : Nat) : Nat := (b - a) * c.2.2.1 * (nb (c.2.2.2.2.2 k + b * c.2.2.1) + k) + V b
def Vw (c : WQ) : Nat → Nat → Nat
  | 0, a => ((c.2.2.2.1 - a) * c.2.2.1 + c.2.2.2.2.1) * (nb (c.2.2.2.2.2 c.2.1 + c.1) + c.2.1)
  | j + 1, a => wF c (c.2.1 - (j + 1)) (Vw c j) a (mb (wF c (c.2.1 - (j + 1)) (Vw c j) a) c.2.2.2.1 (c.2.2.2.1 - a))
def Bw (c : WQ) (j a : Nat) : Nat := mb (wF c (c.2.1 - (j + 1)) (Vw c j) a) c.2.2.2.1 (c.2.2.2.1 - a)
theorem Vw_spec (c : WQ) (j : Nat) {a : Nat} (ha : a ≤ c.2.2.2.1) : IsMin (wF c (c.2.1 - (j + 1)) (Vw c j) a) a c.2.2.2.1 (Vw c (j + 1) a) (Bw c j a) := by
  have := mb_spec (wF c (c.2.1 - (j + 1)) (Vw c j) a) c.2.2.2.1 (c.2.2.2.1 - a) (by omega)
  rw [show c.2.2.2.1 - (c.2.2.2.1 - a) = a by omega] at this
  exact this
theorem Vw_le {c : WQ} (h : wOk c) : ∀ (j a : Nat), a ≤ c.2.2.2.1 → Vw c j a ≤ 2400
  | 0, a, ha => by
    obtain ⟨h1, h2, h3, h4, h5, h6⟩ := h
    show ((c.2.2.2.1 - a) * c.2.2.1 + c.2.2.2.2.1) * (nb (c.2.2.2.2.2 c.2.1 + c.1) + c.2.1) ≤ 2400
    have e1 : (c.2.2.2.1 - a) * c.2.2.1 ≤ c.2.2.2.1 * c.2.2.1 := Nat.mul_le_mul_right _ (by omega)
    have e2 := nb_le (c.2.2.2.2.2 c.2.1 + c.1)
    exact Nat.le_trans (Nat.mul_le_mul (show _ ≤ 200 by omega) (show _ ≤ 12 by omega)) (by decide)
  | j + 1, a, ha => by
    have h0 := Vw_le h j a ha
    have := (Vw_spec c j ha).2.2.2.1 a (Nat.le_refl _) ha
    have e : wF c (c.2.1 - (j + 1)) (Vw c j) a a = Vw c j a := by unfold wF; rw [Nat.sub_self]; omega
    rw [e] at this
    omega
theorem wst_le {c : WQ} (h : wOk c) {b : Nat} (hb : b ≤ c.2.2.2.1) : b * c.2.2.1 ≤ 200 := by
  obtain ⟨h1, h2, h3, h4, h5, h6⟩ := h
  have : b * c.2.2.1 ≤ c.2.2.2.1 * c.2.2.1 := Nat.mul_le_mul_right _ hb
  omega
theorem wS_le {c : WQ} (h : wOk c) : c.2.2.2.1 ≤ 200 := by
  obtain ⟨h1, h2, h3, h4, h5, h6⟩ := h
  have : c.2.2.2.1 * 1 ≤ c.2.2.2.1 * c.2.2.1 := Nat.mul_le_mul_left _ h3
  omega
/-! numbers of the two programs -/
theorem m_notice_nI {n : Nat} (hn : n < 2 ^ 30) : ∃ v, m_noticeBy (nI n) = some v ∧ (v + 6) / 7 = nI (nb n) := by
  unfold m_noticeBy nb
  by_cases h1 : n < 20
  · rw [if_pos (show nI n < 100 from nI_lt (b := 100) (by omega) (by decide)), if_pos (show nI n < 20 from nI_lt (b := 20) h1 (by decide)), if_pos h1]
    exact ⟨_, rfl, by decide⟩
  · by_cases h2 : n < 100
    · rw [if_pos (show nI n < 100 from nI_lt (b := 100) h2 (by decide)), if_neg (show ¬ nI n < 20 from nI_nlt (b := 20) (by omega) (by omega)), if_neg h1, if_pos h2]
      exact ⟨_, rfl, by decide⟩
    · rw [if_neg (show ¬ nI n < 100 from nI_nlt (b := 100) (by omega) (by omega)), if_neg h1, if_neg h2]
      exact ⟨_, rfl, by decide⟩
theorem p_band_nI {n : Nat} (hn : n < 2 ^ 30) : p_PE_bandOf (nI n) = some (nI (bnd n)) := by
  rw [p_band_eq]
  unfold band bnd
  by_cases h1 : n < 20
  · rw [if_pos (show nI n < 20 from nI_lt (b := 20) h1 (by decide)), if_pos h1]; rfl
  · rw [if_neg (show ¬ nI n < 20 from nI_nlt (b := 20) (by omega) (by omega)), if_neg h1]
    by_cases h2 : n < 100
    · rw [if_pos (show nI n < 100 from nI_lt (b := 100) h2 (by decide)), if_pos h2]; rfl
    · rw [if_neg (show ¬ nI n < 100 from nI_nlt (b := 100) (by omega) (by omega)), if_neg h2]; rfl
theorem p_each_nI {k b : Nat} (hb : b ≤ 2) : p_Endings_weeksEach (nI k) (nI b) = some (nI (nbb b + k)) := by
  unfold p_Endings_weeksEach
  have : p_PE_noticeOf (nI b) = some (if b = 0 then 7 else if b = 1 then 30 else 45) := by
    rcases (show b = 0 ∨ b = 1 ∨ b = 2 by omega) with rfl | rfl | rfl <;> rfl
  rw [this, obs]
  have e : (((if b = 0 then (7 : Int32) else if b = 1 then 30 else 45) + 7) - 1) / 7 = nI (nbb b) := by
    rcases (show b = 0 ∨ b = 1 ∨ b = 2 by omega) with rfl | rfl | rfl <;> decide
  rw [e, nI_add]
/-- what was told, as a number -/
def wN (τ : St) (pl dy : Int32) : Nat → Nat
  | 0 => 0
  | n + 1 => wN τ pl dy n + (if τ.1 0 40 n = pl ∧ dy - 89 ≤ τ.1 0 41 n ∧ τ.1 0 41 n ≤ dy then (τ.1 0 42 n).toNatClampNeg else 0)
theorem wsum_nI {σ τ : St} {E : Nat} (he : IEn σ τ E) (pl dy : Int32) : ∀ n, n ≤ E → wsum τ pl dy n = nI (wN τ pl dy n) ∧ wN τ pl dy n ≤ 500 * n
  | 0, _ => ⟨rfl, Nat.le_refl _⟩
  | n + 1, h => by
    obtain ⟨h1, h2⟩ := wsum_nI he pl dy n (by omega)
    obtain ⟨-, -, -, -, -, r1, r2⟩ := he.2.2.2 n (by omega)
    obtain ⟨v, v1, v2⟩ := rg_nI (hi := 500) (x := τ.1 0 42 n) ⟨by omega, r2⟩
    unfold wsum wN
    rw [h1]
    split
    · rw [v2, nI_clamp (by omega), nI_add]
      exact ⟨rfl, by omega⟩
    · exact ⟨by rw [show (0 : Int32) = nI 0 from rfl, nI_add], by omega⟩
