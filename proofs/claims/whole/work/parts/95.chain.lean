/-! ===== chains: who bumps whom ===== -/
def hN (τ : St) (k : Nat) : Nat := (τ.1 0 12 k).toNatClampNeg
def mbF (τ : St) (f : Nat → Int32) (k o : Nat) : Bool := decide (τ.1 0 4 (hN τ o) = τ.1 0 4 (hN τ k) ∧ (¬ τ.1 0 5 (hN τ k) < τ.1 0 5 (hN τ o) ∧ ¬ τ.1 0 5 (hN τ o) < τ.1 0 5 (hN τ k) - 2) ∧ f o < f k ∧ ¬ skl τ k (hN τ o) < 50)
def mbB (τ : St) (f : Nat → Int32) (k o : Nat) : Bool := decide (¬ τ.1 0 12 o < 0) && (decide (τ.1 0 15 o < τ.1 0 0 0) && mbF τ f k o)
def btB (τ : St) (f : Nat → Int32) (o b : Nat) : Bool := decide (τ.1 0 5 (hN τ b) < τ.1 0 5 (hN τ o) ∨ (τ.1 0 5 (hN τ o) = τ.1 0 5 (hN τ b) ∧ f o < f b))
def bmp (τ : St) (f : Nat → Int32) (k : Nat) : Nat → Option Nat
  | 0 => none
  | n + 1 => if mbB τ f k n then Option.elim (bmp τ f k n) (some n) (fun b => if btB τ f n b then some n else some b) else bmp τ f k n
theorem bmp_some {τ : St} {f : Nat → Int32} {k : Nat} : ∀ {n b : Nat}, bmp τ f k n = some b → b < n ∧ mbB τ f k b = true
  | 0, b, h => by cases h
  | n + 1, b, h => by
    unfold bmp at h
    split at h
    · rename_i hm
      cases hc : bmp τ f k n with
      | none => rw [hc] at h; cases h; exact ⟨by omega, hm⟩
      | some c =>
        rw [hc] at h
        obtain ⟨h1, h2⟩ := bmp_some hc
        simp only [oes] at h
        split at h
        · cases h; exact ⟨by omega, hm⟩
        · cases h; exact ⟨by omega, h2⟩
    · obtain ⟨h1, h2⟩ := bmp_some h
      exact ⟨by omega, h2⟩
theorem mbB_lt {τ : St} {f : Nat → Int32} {k o : Nat} (h : mbB τ f k o = true) : f o < f k ∧ ¬ τ.1 0 12 o < 0 ∧ τ.1 0 15 o < τ.1 0 0 0 := by
  unfold mbB at h
  rw [Bool.and_eq_true, Bool.and_eq_true, decide_eq_true_iff, decide_eq_true_iff] at h
  exact ⟨(of_decide_eq_true h.2.2).2.2.1, h.1, h.2.1⟩
section Chain
variable {σ τ : St} {U P Q T R L E : Nat}
theorem hold_nI (hp : IPo σ τ U P Q) (hq : IPe σ τ P Q T) {k : Nat} (hk : k < Q) (hh : ¬ τ.1 0 12 k < 0) : hN τ k < P ∧ σ.2 2 k 4 = some (hN τ k) ∧ τ.1 0 12 k = nI (hN τ k) ∧ τ.1 0 14 k < 0 := by
  have hP := hp.1
  rcases holds_eq hq hk with ⟨-, c⟩ | ⟨p, c1, c2, c3, -, -, c6⟩
  · rw [c] at hh; exact absurd (by decide) hh
  · have : hN τ k = p := by unfold hN; rw [c3, nI_clamp (by omega)]
    rw [this]
    exact ⟨c1, c2, c3, c6⟩
theorem hold_no (hP : P ≤ 40) (hq : IPe σ τ P Q T) {k : Nat} (hk : k < Q) (hh : τ.1 0 12 k < 0) : σ.2 2 k 4 = none := by
  rcases holds_eq hq hk with ⟨c, -⟩ | ⟨p, c1, c2, c3, c4, c5, c6⟩
  · exact c
  · exfalso
    rw [c3] at hh
    exact nI_pos (by omega) hh
theorem p_bmark_eq (hq : IPe σ τ P Q T) {f : Nat → Int32} (h26 : ∀ k, k < Q → σ.1 0 26 k = f k) {k : Nat} (hk : k < Q) : p_Bumping_markOf σ k = some (f k) := by
  have hQ := hq.1
  unfold p_Bumping_markOf
  rw [(hq.2.2.2 k hk).2.1, if_neg (nI_pos (by omega)), if_pos (show nI k < 40 from nI_lt (b := 40) (by omega) (by decide)), ix_nI (show k < 40 by omega) (by decide), obs, h26 k hk]
theorem p_mayBump_eq (hs : ISc σ τ) (hp : IPo σ τ U P Q) (hq : IPe σ τ P Q T) {f : Nat → Int32} (h26 : ∀ k, k < Q → σ.1 0 26 k = f k) {k o : Nat} (hk : k < Q) (ho : o < Q) (hh : ¬ τ.1 0 12 k < 0) : p_Bumping_mayBump σ k o = some (if mbB τ f k o then 1 else 0) := by
  obtain ⟨k1, k2, k3, k4⟩ := hold_nI hp hq hk hh
  unfold p_Bumping_mayBump mbB
  rw [lt1_eq, lt1_eq, k2, oes]
  by_cases ho' : τ.1 0 12 o < 0
  · rw [hold_no hp.1 hq ho ho', oen, decide_eq_false (fun c => c ho')]
    rfl
  · obtain ⟨o1, o2, o3, o4⟩ := hold_nI hp hq ho ho'
    rw [o2, oes, p_prot_eq hs hq ho, obs, decide_eq_true ho', Bool.true_and]
    by_cases hg : τ.1 0 15 o < τ.1 0 0 0
    · rw [decide_eq_true hg, if_pos rfl, if_pos rfl, Bool.true_and]
      simp only [line_eq hp o1, line_eq hp k1, (grade_rg hp o1).1, (grade_rg hp k1).1, p_bmark_eq hq h26 ho, p_bmark_eq hq h26 hk, obs, p_skill_eq hp hq hk o1]
      unfold mbF
      by_cases c1 : τ.1 0 4 (hN τ o) = τ.1 0 4 (hN τ k)
      · rw [if_pos c1]
        by_cases c2 : τ.1 0 5 (hN τ k) < τ.1 0 5 (hN τ o)
        · rw [if_pos c2, if_neg (fun c => (of_decide_eq_true c).2.1.1 c2)]
        · rw [if_neg c2]
          by_cases c3 : τ.1 0 5 (hN τ o) < τ.1 0 5 (hN τ k) - 2
          · rw [if_pos c3, if_neg (fun c => (of_decide_eq_true c).2.1.2 c3)]
          · rw [if_neg c3]
            by_cases c4 : f o < f k
            · rw [if_pos c4]
              by_cases c5 : skl τ k (hN τ o) < 50
              · rw [if_pos c5, if_neg (fun c => (of_decide_eq_true c).2.2.2 c5)]
              · rw [if_neg c5, if_pos (decide_eq_true ⟨c1, ⟨c2, c3⟩, c4, c5⟩)]
            · rw [if_neg c4, if_neg (fun c => c4 (of_decide_eq_true c).2.2.1)]
      · rw [if_neg c1, if_neg (fun c => c1 (of_decide_eq_true c).1)]
    · rw [decide_eq_false hg, if_neg (show ¬ (false = true) by decide), if_neg (show ¬ (1 : Int32) = 0 by decide)]
      rfl
theorem p_better_eq (hp : IPo σ τ U P Q) (hq : IPe σ τ P Q T) {f : Nat → Int32} (h26 : ∀ k, k < Q → σ.1 0 26 k = f k) {o b : Nat} (ho : o < Q) (hb : b < Q) (ho' : ¬ τ.1 0 12 o < 0) (hb' : ¬ τ.1 0 12 b < 0) : p_Bumping_isBetter σ o b = some (if btB τ f o b then 1 else 0) := by
  obtain ⟨o1, o2, o3, o4⟩ := hold_nI hp hq ho ho'
  obtain ⟨b1, b2, b3, b4⟩ := hold_nI hp hq hb hb'
  unfold p_Bumping_isBetter p_Bumping_gradeOf btB
  rw [lt1_eq, lt1_eq, o2, b2, oes, oes, obs, obs, (grade_rg hp o1).1, (grade_rg hp b1).1, p_bmark_eq hq h26 ho, p_bmark_eq hq h26 hb, obs, obs]
  by_cases c1 : τ.1 0 5 (hN τ o) = τ.1 0 5 (hN τ b)
  · rw [if_pos c1]
    have c0 : ¬ τ.1 0 5 (hN τ b) < τ.1 0 5 (hN τ o) := by rw [i_lt, c1]; omega
    by_cases c2 : f o < f b
    · rw [if_pos c2, if_pos (decide_eq_true (Or.inr ⟨c1, c2⟩))]
    · rw [if_neg c2, if_neg (fun c => (of_decide_eq_true c).elim c0 (fun d => c2 d.2))]
  · rw [if_neg c1]
    by_cases c0 : τ.1 0 5 (hN τ b) < τ.1 0 5 (hN τ o)
    · rw [if_pos c0, if_pos (decide_eq_true (Or.inl c0))]
    · rw [if_neg c0, if_neg (fun c => (of_decide_eq_true c).elim c0 (fun d => c1 d.1))]
theorem p_bumped_eq (hs : ISc σ τ) (hp : IPo σ τ U P Q) (hq : IPe σ τ P Q T) {f : Nat → Int32} (h26 : ∀ k, k < Q → σ.1 0 26 k = f k) {k : Nat} (hk : k < Q) (hh : ¬ τ.1 0 12 k < 0) : p_Bumping_bumpedBy σ k = some (bmp τ f k Q) := by
  have hQ := hq.1
  unfold p_Bumping_bumpedBy
  refine itr_bd Q (fun i => (bmp τ f k i, nI i)) (bmp τ f k Q) (FU_lt (by omega)) rfl (fun i hi => ?_) ?_ rfl
  · simp only [lt1_eq, hq.2.2.1, if_pos (nI_lt hi (show Q < 2 ^ 31 by omega)), personAt_t hq hi, obs, oes, p_mayBump_eq hs hp hq h26 hk hi hh, nI_1]
    have e : bmp τ f k (i + 1) = if mbB τ f k i then Option.elim (bmp τ f k i) (some i) (fun b => if btB τ f i b then some i else some b) else bmp τ f k i := rfl
    rw [e]
    cases hm : mbB τ f k i with
    | false => simp
    | true =>
      simp only [if_true, if_neg (show ¬ (1 : Int32) = 0 by decide)]
      cases hc : bmp τ f k i with
      | none => rfl
      | some b =>
        obtain ⟨d1, d2⟩ := bmp_some hc
        simp only [oes, p_better_eq hp hq h26 hi (show b < Q by omega) (mbB_lt hm).2.1 (mbB_lt d2).2.1, obs]
        cases btB τ f i b <;> rfl
  · simp only [lt1_eq, hq.2.2.1, if_neg (nI_nlt (Nat.le_refl Q) (show Q < 2 ^ 31 by omega))]
theorem m_moved_eq {i : Nat} (hi : i ≤ 40) (h51 : τ.1 0 0 51 = nI i) (o : Nat) : m_isMoved τ (nI o) = some (if anyB (fun j => decide (τ.1 0 33 j = nI o ∨ τ.1 0 35 j = nI o)) i then 1 else 0) := by
  unfold m_isMoved
  by_cases hx : ∃ j, j < i ∧ (τ.1 0 33 j = nI o ∨ τ.1 0 35 j = nI o)
  · have hany : anyB (fun j => decide (τ.1 0 33 j = nI o ∨ τ.1 0 35 j = nI o)) i = true := by
      rw [anyB_iff]
      obtain ⟨j, h1, h2⟩ := hx
      exact ⟨j, h1, decide_eq_true h2⟩
    rw [hany]
    obtain ⟨j0, ⟨h1, h2⟩, hmin⟩ := pk_least (fun j => j < i ∧ (τ.1 0 33 j = nI o ∨ τ.1 0 35 j = nI o)) hx
    refine itr_bd j0 nI (.inr 1) (FU_lt (by omega)) rfl (fun j hj => ?_) ?_ rfl
    · have hn : ¬ (τ.1 0 33 j = nI o ∨ τ.1 0 35 j = nI o) := fun c => hmin j hj ⟨by omega, c⟩
      simp only [h51, if_pos (nI_lt (show j < i by omega) (show i < 2 ^ 31 by omega)), ix_nI (show j < 41 by omega) (show 41 < 2 ^ 31 by decide), obs, if_neg (fun c => hn (Or.inl c)), if_neg (fun c => hn (Or.inr c)), nI_1]
    · simp only [h51, if_pos (nI_lt h1 (show i < 2 ^ 31 by omega)), ix_nI (show j0 < 41 by omega) (show 41 < 2 ^ 31 by decide), obs]
      by_cases c : τ.1 0 33 j0 = nI o
      · rw [if_pos c]
      · rw [if_neg c, if_pos (h2.resolve_left c)]
  · have hany : anyB (fun j => decide (τ.1 0 33 j = nI o ∨ τ.1 0 35 j = nI o)) i = false := by
      cases hc : anyB (fun j => decide (τ.1 0 33 j = nI o ∨ τ.1 0 35 j = nI o)) i with
      | false => rfl
      | true =>
        rw [anyB_iff] at hc
        obtain ⟨j, h1, h2⟩ := hc
        exact absurd ⟨j, h1, of_decide_eq_true h2⟩ hx
    rw [hany]
    refine itr_bd i nI (.inl ()) (FU_lt (by omega)) rfl (fun j hj => ?_) ?_ rfl
    · have hn : ¬ (τ.1 0 33 j = nI o ∨ τ.1 0 35 j = nI o) := fun c => hx ⟨j, hj, c⟩
      simp only [h51, if_pos (nI_lt hj (show i < 2 ^ 31 by omega)), ix_nI (show j < 41 by omega) (show 41 < 2 ^ 31 by decide), obs, if_neg (fun c => hn (Or.inl c)), if_neg (fun c => hn (Or.inr c)), nI_1]
    · simp only [h51, if_neg (nI_nlt (Nat.le_refl i) (show i < 2 ^ 31 by omega))]
end Chain
