/-! ===== alike, fit, back ===== -/
def ad (x y : Int32) : Int32 := nI ((x.toNatClampNeg - y.toNatClampNeg) + (y.toNatClampNeg - x.toNatClampNeg))
theorem ad_comm (x y : Int32) : ad x y = ad y x := by unfold ad; rw [Nat.add_comm]
theorem abs_ad {a b : Nat} (ha : a < 2 ^ 30) (hb : b < 2 ^ 30) : (if (0 : Int32) ≤ nI a - nI b then nI a - nI b else 0 - (nI a - nI b)) = ad (nI a) (nI b) := by
  unfold ad
  rw [nI_clamp (by omega), nI_clamp (by omega)]
  by_cases h : b ≤ a
  · rw [pk_sub h, if_pos (nI_pos' (by omega))]
    congr 1; omega
  · have h1 := pk_sneg (a := a) (b := b) hb (by omega)
    rw [if_neg (fun c => by rw [i_le] at c; rw [i_lt] at h1; omega)]
    have : (0 : Int32) - (nI a - nI b) = nI b - nI a := by rw [Int32.sub_eq_add_neg, Int32.neg_sub, Int32.zero_add]
    rw [this, pk_sub (by omega)]
    congr 1; omega
theorem amount_ad {a b : Nat} (ha : a < 2 ^ 30) (hb : b < 2 ^ 30) : m_amount (nI a - nI b) = some (ad (nI a) (nI b)) := by
  rw [← abs_ad ha hb]
  unfold m_amount
  by_cases h : nI a - nI b < 0
  · rw [if_pos h, if_neg (fun c => by rw [i_le] at c; rw [i_lt] at h; omega), Int32.zero_sub]
  · rw [if_neg h, if_pos (Int32.not_lt.mp h)]
section Back
variable {σ τ : St} {U P Q T R L E : Nat}
theorem grade_rg (hp : IPo σ τ U P Q) {p : Nat} (hpp : p < P) : σ.1 1 p 3 = τ.1 0 5 p ∧ ∃ g, 1 ≤ g ∧ g ≤ 9 ∧ τ.1 0 5 p = nI g := by
  obtain ⟨-, -, -, -, a5, -, -, -, -, a10, -⟩ := hp.2.2.2 p hpp
  obtain ⟨n, h1, h2⟩ := rg_nI (hi := 9) (x := τ.1 0 5 p) ⟨Int.le_trans (by decide) a10.1, a10.2⟩
  have := a10.1
  rw [h2, nI_toInt (by omega)] at this
  exact ⟨a5, n, by omega, h1, h2⟩
theorem hours_rg (hp : IPo σ τ U P Q) {p : Nat} (hpp : p < P) : σ.1 1 p 4 = τ.1 0 6 p ∧ ∃ g, g ≤ 40 ∧ τ.1 0 6 p = nI g := by
  obtain ⟨-, -, -, -, -, a6, -, -, -, -, a11, -⟩ := hp.2.2.2 p hpp
  obtain ⟨n, h1, h2⟩ := rg_nI (hi := 40) (x := τ.1 0 6 p) ⟨Int.le_trans (by decide) a11.1, a11.2⟩
  exact ⟨a6, n, h1, h2⟩
def fitv (τ : St) (k p : Nat) : Int32 := if τ.1 0 12 k < 0 then skl τ k p - 10 * ad (τ.1 0 5 p) 1 else skl τ k p - 10 * ad (τ.1 0 5 p) (τ.1 0 5 (τ.1 0 12 k).toNatClampNeg) - 2 * ad (τ.1 0 6 p) (τ.1 0 6 (τ.1 0 12 k).toNatClampNeg)
theorem p_fit_eq (hp : IPo σ τ U P Q) (hq : IPe σ τ P Q T) {k p : Nat} (hk : k < Q) (hpp : p < P) : p_Firm_fitFor σ k p = some (fitv τ k p) := by
  have hP := hp.1
  obtain ⟨e1, g, g0, g1, g2⟩ := grade_rg hp hpp
  obtain ⟨e2, h, h1, h2⟩ := hours_rg hp hpp
  unfold p_Firm_fitFor fitv
  rw [p_skill_eq hp hq hk hpp]
  simp only [lt1_eq, obs]
  rcases holds_eq hq hk with ⟨c1, c2⟩ | ⟨q, c1, c2, c3, -⟩
  · rw [c1, c2, if_pos (show (-1 : Int32) < 0 by decide)]
    simp only [oen, e1, g2]
    have := abs_ad (a := g) (b := 1) (by omega) (by decide)
    rw [show (nI 1) = (1 : Int32) from rfl] at this
    rw [this]
  · obtain ⟨e3, g', g0', g1', g2'⟩ := grade_rg hp c1
    obtain ⟨e4, h', h1', h2'⟩ := hours_rg hp c1
    rw [c2, c3, if_neg (nI_pos (show q < 2 ^ 31 by omega)), nI_clamp (show q < 2 ^ 31 by omega)]
    simp only [oes, e1, e2, e3, e4, g2, g2', h2, h2']
    rw [abs_ad (a := g) (b := g') (by omega) (by omega), abs_ad (a := h) (b := h') (by omega) (by omega)]
theorem m_fit_eq (hp : IPo σ τ U P Q) (hq : IPe σ τ P Q T) {k p : Nat} (hk : k < Q) (hpp : p < P) : m_fitOf τ (nI k) (nI p) = some (fitv τ k p) := by
  have hP := hp.1
  have hQ := hq.1
  obtain ⟨e1, g, g0, g1, g2⟩ := grade_rg hp hpp
  obtain ⟨e2, h, h1, h2⟩ := hours_rg hp hpp
  unfold m_fitOf fitv
  rw [m_skill_eq hp hq hk hpp]
  simp only [ix_nI (show k < 40 by omega) (show 40 < 2 ^ 31 by decide), ix_nI (show p < 40 by omega) (show 40 < 2 ^ 31 by decide), obs]
  rcases holds_eq hq hk with ⟨c1, c2⟩ | ⟨q, c1, c2, c3, -⟩
  · rw [c2, if_pos (show (-1 : Int32) < 0 by decide)]
    simp only [if_pos (show (-1 : Int32) < 0 by decide), obs, g2]
    have := amount_ad (a := 1) (b := g) (by decide) (by omega)
    rw [show (nI 1) = (1 : Int32) from rfl] at this
    rw [this, obs, ad_comm, show (2 : Int32) * 0 = 0 from rfl, Int32.sub_zero]
  · obtain ⟨e3, g', g0', g1', g2'⟩ := grade_rg hp c1
    obtain ⟨e4, h', h1', h2'⟩ := hours_rg hp c1
    rw [c3, if_neg (nI_pos (show q < 2 ^ 31 by omega)), nI_clamp (show q < 2 ^ 31 by omega)]
    simp only [if_neg (nI_pos (show q < 2 ^ 31 by omega)), ix_nI (show q < 40 by omega) (show 40 < 2 ^ 31 by decide), obs, g2, g2', h2, h2']
    rw [amount_ad (a := h') (b := h) (by omega) (by omega), obs]
    rw [amount_ad (a := g') (b := g) (by omega) (by omega), obs, ad_comm (nI g') (nI g), ad_comm (nI h') (nI h)]
    rfl
def like (τ : St) (a b : Nat) : Prop := τ.1 0 4 a = τ.1 0 4 b ∧ ((τ.1 0 5 a).toInt - (τ.1 0 5 b).toInt ≤ 1 ∧ (τ.1 0 5 b).toInt - (τ.1 0 5 a).toInt ≤ 1) ∧ (¬ on (τ.1 0 7 a &&& τ.1 0 7 b) < τ.1 0 0 20 ∨ (τ.1 0 7 a = 0 ∧ τ.1 0 7 b = 0))
def lkB (τ : St) (a b : Nat) : Bool := decide (τ.1 0 4 a = τ.1 0 4 b ∧ ((τ.1 0 5 a).toInt - (τ.1 0 5 b).toInt ≤ 1 ∧ (τ.1 0 5 b).toInt - (τ.1 0 5 a).toInt ≤ 1) ∧ (¬ on (τ.1 0 7 a &&& τ.1 0 7 b) < τ.1 0 0 20 ∨ (τ.1 0 7 a = 0 ∧ τ.1 0 7 b = 0)))
theorem lkB_comm (τ : St) (a b : Nat) : lkB τ a b = lkB τ b a := by
  unfold lkB
  rw [Bool.eq_iff_iff, decide_eq_true_iff, decide_eq_true_iff, Int32.and_comm (τ.1 0 7 a)]
  constructor
  · rintro ⟨h1, ⟨h2, h3⟩, h4⟩; exact ⟨h1.symm, ⟨h3, h2⟩, h4.imp id And.symm⟩
  · rintro ⟨h1, ⟨h2, h3⟩, h4⟩; exact ⟨h1.symm, ⟨h3, h2⟩, h4.imp id And.symm⟩
theorem line_eq (hp : IPo σ τ U P Q) {p : Nat} (hpp : p < P) : σ.1 1 p 2 = τ.1 0 4 p := (hp.2.2.2 p hpp).2.2.2.1
theorem p_like_eq (hs : ISc σ τ) (hp : IPo σ τ U P Q) {a b : Nat} (ha : a < P) (hb : b < P) : p_Firm_isAlike σ a b = some (if lkB τ a b then 1 else 0) := by
  have hP := hp.1
  obtain ⟨e1, g, g0, g1, g2⟩ := grade_rg hp ha
  obtain ⟨e2, h, h0, h1, h2⟩ := grade_rg hp hb
  obtain ⟨w1, r1⟩ := wants_rg hp ha
  obtain ⟨w2, r2⟩ := wants_rg hp hb
  have r3 := and_rg (hi := 1023) r1 r2 (by decide)
  unfold p_Firm_isAlike lkB
  simp only [line_eq hp ha, line_eq hp hb, e1, e2, w1, w2, bc_on (r3.up (by decide) : Rg 0 4095 _), obs, show ix 3 (0 : Int32) = some 0 from rfl, hs.2.2.2.1, g2, h2, abs_ad (show g < 2 ^ 30 by omega) (show h < 2 ^ 30 by omega), nI_toInt (show g < 2 ^ 31 by omega), nI_toInt (show h < 2 ^ 31 by omega)]
  have hg : (1 : Int32) < ad (nI g) (nI h) ↔ ¬ ((g : Int) - h ≤ 1 ∧ (h : Int) - g ≤ 1) := by
    unfold ad
    rw [nI_clamp (by omega), nI_clamp (by omega)]
    have := nI_ltI (a := 1) (b := g - h + (h - g)) (by decide) (by omega)
    rw [show nI 1 = (1 : Int32) from rfl] at this
    rw [this]
    omega
  have h7 : (if τ.1 0 7 a = 0 then (if τ.1 0 7 b = 0 then some (1 : Int32) else (if on (τ.1 0 7 a &&& τ.1 0 7 b) < τ.1 0 0 20 then some 0 else some 1)) else (if on (τ.1 0 7 a &&& τ.1 0 7 b) < τ.1 0 0 20 then some 0 else some 1)) = some (bI (¬ on (τ.1 0 7 a &&& τ.1 0 7 b) < τ.1 0 0 20 ∨ (τ.1 0 7 a = 0 ∧ τ.1 0 7 b = 0))) := by
    unfold bI
    by_cases c4 : τ.1 0 7 a = 0
    · by_cases c5 : τ.1 0 7 b = 0
      · rw [if_pos c4, if_pos c5, if_pos (Or.inr ⟨c4, c5⟩)]
      · rw [if_pos c4, if_neg c5]
        by_cases c3 : on (τ.1 0 7 a &&& τ.1 0 7 b) < τ.1 0 0 20
        · rw [if_pos c3, if_neg (fun c => c.elim (fun x => x c3) (fun x => c5 x.2))]
        · rw [if_neg c3, if_pos (Or.inl c3)]
    · rw [if_neg c4]
      by_cases c3 : on (τ.1 0 7 a &&& τ.1 0 7 b) < τ.1 0 0 20
      · rw [if_pos c3, if_neg (fun c => c.elim (fun x => x c3) (fun x => c4 x.1))]
      · rw [if_neg c3, if_pos (Or.inl c3)]
  rw [h7]
  by_cases c1 : τ.1 0 4 a = τ.1 0 4 b
  · by_cases c2 : (g : Int) - h ≤ 1 ∧ (h : Int) - g ≤ 1
    · rw [if_pos c1, if_neg (fun c => hg.mp c c2)]
      by_cases c3 : ¬ on (τ.1 0 7 a &&& τ.1 0 7 b) < τ.1 0 0 20 ∨ (τ.1 0 7 a = 0 ∧ τ.1 0 7 b = 0)
      · rw [bI_t c3, if_pos (decide_eq_true ⟨c1, c2, c3⟩)]
      · rw [bI_f c3, if_neg (fun c => c3 (of_decide_eq_true c).2.2)]
    · rw [if_pos c1, if_pos (hg.mpr c2), if_neg (fun c => c2 (of_decide_eq_true c).2.1)]
  · rw [if_neg c1, if_neg (fun c => c1 (of_decide_eq_true c).1)]
theorem m_like_eq (hp : IPo σ τ U P Q) {a b : Nat} (ha : a < P) (hb : b < P) : m_areLike τ (nI a) (nI b) = some (if lkB τ a b then 1 else 0) := by
  have hP := hp.1
  obtain ⟨e1, g, g0, g1, g2⟩ := grade_rg hp ha
  obtain ⟨e2, h, h0, h1, h2⟩ := grade_rg hp hb
  obtain ⟨w1, r1⟩ := wants_rg hp ha
  obtain ⟨w2, r2⟩ := wants_rg hp hb
  have r3 := and_rg (hi := 1023) r1 r2 (by decide)
  unfold m_areLike lkB
  simp only [ix_nI (show a < 40 by omega) (show 40 < 2 ^ 31 by decide), ix_nI (show b < 40 by omega) (show 40 < 2 ^ 31 by decide), ones_on (r3.up (by decide) : Rg 0 4095 _), obs, m_in_eq, bI_eq0, g2, h2, nI_toInt (show g < 2 ^ 31 by omega), nI_toInt (show h < 2 ^ 31 by omega)]
  have hg : ((-1 : Int32) ≤ nI g - nI h ∧ nI g - nI h ≤ 1) ↔ ((g : Int) - h ≤ 1 ∧ (h : Int) - g ≤ 1) := by
    rw [i_le, i_le, pk_sub_toInt (by omega) (by omega), show (-1 : Int32).toInt = -1 from rfl, show (1 : Int32).toInt = 1 from rfl]
    omega
  have h7 : (if on (τ.1 0 7 a &&& τ.1 0 7 b) < τ.1 0 0 20 then (if τ.1 0 7 a = 0 then (if τ.1 0 7 b = 0 then some (1 : Int32) else some 0) else some 0) else some 1) = some (bI (¬ on (τ.1 0 7 a &&& τ.1 0 7 b) < τ.1 0 0 20 ∨ (τ.1 0 7 a = 0 ∧ τ.1 0 7 b = 0))) := by
    unfold bI
    by_cases c3 : on (τ.1 0 7 a &&& τ.1 0 7 b) < τ.1 0 0 20
    · by_cases c4 : τ.1 0 7 a = 0
      · by_cases c5 : τ.1 0 7 b = 0
        · rw [if_pos c3, if_pos c4, if_pos c5, if_pos (Or.inr ⟨c4, c5⟩)]
        · rw [if_pos c3, if_pos c4, if_neg c5, if_neg (fun c => c.elim (fun x => x c3) (fun x => c5 x.2))]
      · rw [if_pos c3, if_neg c4, if_neg (fun c => c.elim (fun x => x c3) (fun x => c4 x.1))]
    · rw [if_neg c3, if_pos (Or.inl c3)]
  rw [h7]
  simp only [obs, bI_eq0]
  by_cases c1 : τ.1 0 4 a = τ.1 0 4 b
  · by_cases c2 : (g : Int) - h ≤ 1 ∧ (h : Int) - g ≤ 1
    · rw [if_pos c1, if_neg (fun c => c (hg.mpr c2))]
      by_cases c3 : ¬ on (τ.1 0 7 a &&& τ.1 0 7 b) < τ.1 0 0 20 ∨ (τ.1 0 7 a = 0 ∧ τ.1 0 7 b = 0)
      · rw [if_neg (fun c => c c3), if_pos (decide_eq_true ⟨c1, c2, c3⟩)]
      · rw [if_pos c3, if_neg (fun c => c3 (of_decide_eq_true c).2.2)]
    · rw [if_pos c1, if_pos (fun c => c2 (hg.mp c)), if_neg (fun c => c2 (of_decide_eq_true c).2.1)]
  · rw [if_neg c1, if_neg (fun c => c1 (of_decide_eq_true c).1)]
end Back
theorem s_fit : S_fit Inv := by
  intro σ τ N a1 a2 hI
  obtain ⟨U, L, E, hs, hu, hp, hq, ht, hr, hl, he⟩ := id hI
  have hQ := hq.1
  have hP := hp.1
  simp only [p_PE_fit, m_fit, bind_pair, p_f1, m_f1]
  rcases in_or a1 (n := N 2) (by omega) with ⟨k, hk, rfl⟩ | ⟨hno, -⟩
  · rw [personAt_t hq hk, isPerson_t hq hk]
    rcases in_or a2 (n := N 1) (by omega) with ⟨p, hpp, rfl⟩ | ⟨hno, -⟩
    · rw [postAt_t hp hpp, isPost_t hp hpp]
      simp only [obs, oes, if_neg (show ¬ (1 : Int32) = 0 by decide), p_fit_eq hp hq hk hpp, m_fit_eq hp hq hk hpp]
      exact ⟨_, _, _, rfl, rfl, hI⟩
    · rw [postAt_f hp hno, isPost_f hp hno]
      simp only [obs, oen, oes, if_true, if_neg (show ¬ (1 : Int32) = 0 by decide)]
      exact ⟨_, _, _, rfl, rfl, inv_rf hI 1⟩
  · rw [personAt_f hq hno, isPerson_f hq hno]
    obtain ⟨x, hx⟩ : ∃ x, p_Firm_postAt σ a2 = some x := by
      rcases in_or a2 (n := N 1) (by omega) with ⟨p, hpp, rfl⟩ | ⟨hno, -⟩
      · exact ⟨_, postAt_t hp hpp⟩
      · exact ⟨_, postAt_f hp hno⟩
    rw [hx]
    simp only [obs, oen, if_true]
    exact ⟨_, _, _, rfl, rfl, inv_rf hI 1⟩
