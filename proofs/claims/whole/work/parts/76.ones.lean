/-! ===== how many bits ===== -/
def bsum (n : Nat) : Nat → Nat
  | 0 => 0
  | i + 1 => bsum n i + n / 2 ^ i % 2
def pc (n : Nat) : Nat := bsum n 12
def chk2 (f : Nat → Bool) : Nat → Nat → Bool
  | 0, a => f a
  | k + 1, a => chk2 f k a && chk2 f k (a + 2 ^ k)
theorem chk2_all {f : Nat → Bool} : ∀ {k a : Nat}, chk2 f k a = true → ∀ n, a ≤ n → n < a + 2 ^ k → f n = true
  | 0, a, h, n, h1, h2 => by
    have : n = a := by simp at h2; omega
    subst this
    exact h
  | k + 1, a, h, n, h1, h2 => by
    unfold chk2 at h
    rw [Bool.and_eq_true] at h
    rw [Nat.pow_succ] at h2
    by_cases e : n < a + 2 ^ k
    · exact chk2_all h.1 n h1 e
    · exact chk2_all h.2 n (by omega) (by omega)
theorem bc_chk : chk2 (fun n => decide (j_Integer_bitCount (nI n) = some (nI (pc n)))) 12 0 = true := by decide +kernel
theorem bc_eq {n : Nat} (h : n < 4096) : j_Integer_bitCount (nI n) = some (nI (pc n)) := of_decide_eq_true (chk2_all bc_chk n (Nat.zero_le _) (by omega))
theorem bsum_stop {n i : Nat} (h : n / 2 ^ i = 0) : ∀ {j : Nat}, i ≤ j → bsum n j = bsum n i := by
  intro j hj
  induction j with
  | zero => have : i = 0 := by omega
            subst this; rfl
  | succ j ih =>
    by_cases e : i = j + 1
    · subst e; rfl
    · show bsum n j + n / 2 ^ j % 2 = bsum n i
      rw [ih (by omega)]
      have h1 : n < 2 ^ i := by
        rcases Nat.div_eq_zero_iff.mp h with h | h
        · have := Nat.two_pow_pos i; omega
        · exact h
      have h2 : 2 ^ i ≤ 2 ^ j := Nat.pow_le_pow_right (by decide) (by omega)
      rw [Nat.div_eq_of_lt (show n < 2 ^ j by omega)]
      rfl
theorem bsum_le (n : Nat) : ∀ i, bsum n i ≤ i
  | 0 => Nat.le_refl _
  | i + 1 => by
    unfold bsum
    have := bsum_le n i
    have := Nat.mod_lt (n / 2 ^ i) (show 0 < 2 by decide)
    omega
theorem pc_le (n : Nat) : pc n ≤ 12 := bsum_le n 12
theorem m_ones_eq {n : Nat} (h : n < 4096) : m_ones (nI n) = some (nI (pc n)) := by
  unfold m_ones
  have hk : OK (itr0 (S := Int32 × Int32) (E := Int32) (fun s1 => (if 0 < s1.2 then some (.inl (s1.1 + (s1.2 - s1.2 / (2 : Int32) * (2 : Int32)), s1.2 / (2 : Int32))) else some (.inr s1.1))) FU ((0 : Int32), nI n)) (fun e => e = nI (pc n)) := by
    refine OK.itr 12 (fun i s => s = (nI (bsum n i), nI (n / 2 ^ i))) (by simp [bsum]; rfl) (fun i s hi hs => ?_) (fun s hs => ?_) (FU_lt (by decide))
    · subst hs
      have hb : n / 2 ^ i < 4096 := Nat.lt_of_le_of_lt (Nat.div_le_self _ _) h
      simp only
      refine OK.ite (fun hc => ?_) (fun hc => ?_)
      · refine OK.so ?_
        show _ = _
        have e1 : nI (n / 2 ^ i) - nI (n / 2 ^ i) / 2 * 2 = nI (n / 2 ^ i % 2) := pk_rem (d := 2) (by omega) (by decide) (by decide)
        have e2 : nI (n / 2 ^ i) / 2 = nI (n / 2 ^ i / 2) := pk_div (d := 2) (by omega) (by decide) (by decide)
        rw [e1, e2, nI_add, Nat.div_div_eq_div_mul, ← Nat.pow_succ]
        rfl
      · refine OK.so ?_
        show _ = _
        have h0 : n / 2 ^ i = 0 := by
          rcases Nat.eq_zero_or_pos (n / 2 ^ i) with e | e
          · exact e
          · exact absurd (nI_lt (a := 0) e (by omega)) hc
        rw [pc, bsum_stop h0 (show i ≤ 12 by omega)]
    · subst hs
      have h0 : n / 2 ^ 12 = 0 := Nat.div_eq_of_lt (by omega)
      simp only [h0]
      rw [if_neg (by decide)]
      exact OK.so rfl
  obtain ⟨e, h1, h2⟩ := hk
  rw [h1, h2]
  rfl
theorem pc_0 : pc 0 = 0 := by decide
theorem bsum_mono (n : Nat) {i j : Nat} (h : i ≤ j) : bsum n i ≤ bsum n j := by
  induction j with
  | zero => have : i = 0 := by omega
            subst this; exact Nat.le_refl _
  | succ j ih =>
    by_cases e : i = j + 1
    · subst e; exact Nat.le_refl _
    · have := ih (by omega)
      show bsum n i ≤ bsum n j + _
      omega
theorem pc_pos {n : Nat} (h : n < 4096) (h0 : 0 < n) : 0 < pc n := by
  have : chk2 (fun n => decide (n = 0 ∨ 0 < pc n)) 12 0 = true := by decide +kernel
  have := of_decide_eq_true (chk2_all this n (Nat.zero_le _) (by omega))
  omega
theorem nI_and (a b : Nat) : nI a &&& nI b = nI (a &&& b) := Int32.toBitVec_inj.mp (by simp [nI, BitVec.ofNat_and])
theorem nI_or (a b : Nat) : nI a ||| nI b = nI (a ||| b) := Int32.toBitVec_inj.mp (by simp [nI, BitVec.ofNat_or])
theorem rg_nI {hi : Nat} {x : Int32} (h : Rg 0 hi x) : ∃ n, n ≤ hi ∧ x = nI n := by
  obtain ⟨j, h1, h2⟩ := nI_of (x := x) (by rw [i_lt]; have := h.1; have e : (0 : Int32).toInt = 0 := rfl; omega)
  subst h2
  have := h.2
  rw [nI_toInt h1] at this
  exact ⟨j, by omega, rfl⟩
/-- bits of a number, as ints -/
def on (x : Int32) : Int32 := nI (pc x.toNatClampNeg)
theorem on_nI {n : Nat} (h : n < 4096) : on (nI n) = nI (pc n) := by unfold on; rw [nI_clamp (by omega)]
theorem bc_on {x : Int32} (h : Rg 0 4095 x) : j_Integer_bitCount x = some (on x) := by
  obtain ⟨n, h1, rfl⟩ := rg_nI (hi := 4095) h
  rw [bc_eq (by omega), on_nI (by omega)]
theorem ones_on {x : Int32} (h : Rg 0 4095 x) : m_ones x = some (on x) := by
  obtain ⟨n, h1, rfl⟩ := rg_nI (hi := 4095) h
  rw [m_ones_eq (by omega), on_nI (by omega)]
theorem on_0 {x : Int32} (h : Rg 0 4095 x) : on x = 0 ↔ x = 0 := by
  obtain ⟨n, h1, rfl⟩ := rg_nI (hi := 4095) h
  rw [on_nI (by omega)]
  constructor
  · intro e
    rcases Nat.eq_zero_or_pos n with e0 | e0
    · rw [e0]; rfl
    · have := pc_pos (n := n) (by omega) e0
      have h2 := pc_le n
      exact absurd e (nI_ne0 this (by omega))
  · intro e
    have : n = 0 := nI_inj (by omega) (by decide) (e.trans nI_0.symm)
    rw [this]; rfl
theorem and_rg {hi : Nat} {x y : Int32} (hx : Rg 0 hi x) (hy : Rg 0 hi y) (hh : hi < 2 ^ 31) : Rg 0 hi (x &&& y) := by
  obtain ⟨a, h1, rfl⟩ := rg_nI hx
  obtain ⟨b, h2, rfl⟩ := rg_nI hy
  rw [nI_and]
  have : a &&& b ≤ a := Nat.and_le_left
  exact ⟨by rw [nI_toInt (by omega)]; omega, by rw [nI_toInt (by omega)]; omega⟩
