/-! ===== who belongs to a pool ===== -/
theorem rf_succ (p : Nat → Bool) (i : Nat) : (List.range (i + 1)).filter p = (List.range i).filter p ++ (if p i then [i] else []) := by
  rw [List.range_succ, List.filter_append]
  congr 1
  simp only [List.filter_cons, List.filter_nil]
theorem rf_len (p : Nat → Bool) (i : Nat) : ((List.range i).filter p).length ≤ i := by
  have := List.length_filter_le p (List.range i)
  rw [List.length_range] at this
  exact this
theorem gq_snoc {l : List Nat} {a x k : Nat} (h : (l ++ [a])[x]? = some k) : l[x]? = some k ∨ (x = l.length ∧ k = a) := by
  by_cases hx : x < l.length
  · rw [List.getElem?_append_left hx] at h
    exact Or.inl h
  · rw [List.getElem?_append_right (by omega)] at h
    by_cases e : x = l.length
    · subst e
      rw [Nat.sub_self] at h
      simp at h
      exact Or.inr ⟨rfl, h.symm⟩
    · rw [List.getElem?_eq_none (by simp; omega)] at h
      cases h
theorem rf_lt {p : Nat → Bool} {i x k : Nat} (h : ((List.range i).filter p)[x]? = some k) : k < i ∧ p k = true := by
  have := List.mem_of_getElem? h
  rw [List.mem_filter, List.mem_range] at this
  exact this
theorem gq_lt {l : List Nat} {x k : Nat} (h : l[x]? = some k) : x < l.length := (List.getElem?_eq_some_iff.mp h).1
def mmB (τ : St) (g : Nat → Int32) (pl : Int32) (k : Nat) : Bool := decide (¬ τ.1 0 12 k < 0 ∧ g (τ.1 0 12 k).toNatClampNeg = pl)
abbrev mml (τ : St) (g : Nat → Int32) (pl : Int32) (Q : Nat) : List Nat := (List.range Q).filter (mmB τ g pl)
/-- a pool is taken -/
def TK (σ τ : St) (P Q : Nat) (g : Nat → Int32) (pl : Int32) (σ' τ' : St) : Prop :=
  FrC σ σ' ∧ FrM τ τ' ∧ (∀ p, p < P → σ'.1 0 15 p = g p ∧ τ'.1 0 27 p = g p) ∧ σ'.1 0 2 4 = pl ∧ σ'.1 0 2 6 = nI (mml τ g pl Q).length ∧ ∀ x k, (mml τ g pl Q)[x]? = some k → σ'.2 0 17 x = some k
section Members
variable {σ τ : St} {U P Q T R L E : Nat}
theorem p_holdsHere_eq (h : InvB σ τ U P Q T R L E) {σ' : St} (hf : FrC σ σ') {g : Nat → Int32} {pl : Int32} (hg : ∀ p, p < P → σ'.1 0 15 p = g p) (hpl : σ'.1 0 2 4 = pl) {k : Nat} (hk : k < Q) : p_Pools_holdsHere σ' k = some (if mmB τ g pl k then 1 else 0) := by
  obtain ⟨hs, hu, hp, hq, ht, hr, hl, he⟩ := h.frC hf
  have hP := hp.1
  unfold p_Pools_holdsHere mmB
  rw [lt1_eq, hpl]
  rcases holds_eq hq hk with ⟨c1, c2⟩ | ⟨p, c1, c2, c3, -⟩
  · rw [c1, c2]
    rfl
  · rw [c2, c3, nI_clamp (by omega)]
    simp only [oes, p_joinedAs_eq hp c1, obs, hg p c1, nI_pos (show p < 2 ^ 31 by omega), not_false_iff, true_and, decide_eq_true_iff]
    split <;> rfl
theorem m_isOf_eq (h : InvB σ τ U P Q T R L E) {τ' : St} (hq' : IPe σ τ' P Q T) (h12 : ∀ k, τ'.1 0 12 k = τ.1 0 12 k) {g : Nat → Int32} {pl : Int32} (hg : ∀ p, p < P → τ'.1 0 27 p = g p) {k : Nat} (hk : k < Q) : m_isOf τ' (nI k) pl = some (if mmB τ g pl k then 1 else 0) := by
  have hP := h.2.2.1.1
  have hQ := hq'.1
  unfold m_isOf mmB
  rw [(isHere_eq hq' hk).2, ix_nI (show k < 40 by omega) (by decide)]
  simp only [obs, bI_eq0, ← h12]
  rcases holds_eq hq' hk with ⟨c1, c2⟩ | ⟨p, c1, c2, c3, c4, c5, c6⟩
  · rw [c2]
    by_cases hh : τ'.1 0 14 k < 0
    · rw [if_neg (fun c => c hh)]; rfl
    · rw [if_pos hh]; rfl
  · rw [c3, nI_clamp (by omega)]
    simp only [c6, not_true, if_false, if_neg (nI_pos (show p < 2 ^ 31 by omega)), ix_nI (show p < 40 by omega) (show 40 < 2 ^ 31 by decide), obs, hg p c1, nI_pos (show p < 2 ^ 31 by omega), not_false_iff, true_and, decide_eq_true_iff]
    split <;> rfl
set_option maxHeartbeats 400000 in
theorem p_gather_ok (h : InvB σ τ U P Q T R L E) {σ1 : St} (hf : FrC σ σ1) {g : Nat → Int32} {pl : Int32} (hg : ∀ p, p < P → σ1.1 0 15 p = g p) (hpl : σ1.1 0 2 4 = pl) : OK (p_Pools_gatherMembers σ1) (fun σ' => FrC σ σ' ∧ (∀ p, p < P → σ'.1 0 15 p = g p) ∧ σ'.1 0 2 4 = pl ∧ σ'.1 0 2 6 = nI (mml τ g pl Q).length ∧ ∀ x k, (mml τ g pl Q)[x]? = some k → σ'.2 0 17 x = some k) := by
  have hq := h.2.2.2.1
  have hQ := hq.1
  unfold p_Pools_gatherMembers
  rw [lt1_eq]
  refine OK.bi (OK.mono (R := fun σ' => FrC σ σ' ∧ (∀ p, p < P → σ'.1 0 15 p = g p) ∧ σ'.1 0 2 4 = pl ∧ σ'.1 0 2 6 = nI (mml τ g pl Q).length ∧ ∀ x k, (mml τ g pl Q)[x]? = some k → σ'.2 0 17 x = some k) ?_ (fun s hs' => OK.so hs'))
  refine OK.itr Q (fun i s => s.1 = nI i ∧ FrC σ s.2 ∧ (∀ p, p < P → s.2.1 0 15 p = g p) ∧ s.2.1 0 2 4 = pl ∧ s.2.1 0 2 6 = nI (mml τ g pl i).length ∧ ∀ x k, (mml τ g pl i)[x]? = some k → s.2.2 0 17 x = some k) ⟨rfl, hf.sx rfl, hg, hpl, rfl, fun x k hx => by simp [mml] at hx⟩ (fun i s hi hs' => ?_) (fun s hs' => ?_) (FU_lt (by omega))
  · obtain ⟨i', σ2⟩ := s
    obtain ⟨e1, hf2, hg2, hp2, hn2, hm2⟩ := hs'
    simp only at e1 hf2 hg2 hp2 hn2 hm2 ⊢
    subst e1
    have h2 := h.frC hf2
    have hlen : (mml τ g pl i).length ≤ i := rf_len (mmB τ g pl) i
    rw [(hf2 0 1 3 rfl).1, hq.2.2.1, if_pos (nI_lt hi (show Q < 2 ^ 31 by omega)), personAt_t h2.2.2.2.1 hi]
    simp only [obs, oes, p_holdsHere_eq h hf2 hg2 hp2 hi, hn2, if_pos (show nI (mml τ g pl i).length < 40 from nI_lt (b := 40) (by omega) (by decide)), ix_nI (show (mml τ g pl i).length < 40 by omega) (show 40 < 2 ^ 31 by decide), lt1_eq, sy_1, nI_1]
    have e2 : mml τ g pl (i + 1) = mml τ g pl i ++ (if mmB τ g pl i then [i] else []) := rf_succ (mmB τ g pl) i
    cases hm : mmB τ g pl i with
    | false =>
      rw [hm] at e2
      simp only [Bool.false_eq_true, if_false, List.append_nil] at e2
      simp only [Bool.false_eq_true, if_false, if_true, obs, e2]
      exact OK.so ⟨rfl, hf2, hg2, hp2, hn2, hm2⟩
    | true =>
      rw [hm, if_pos rfl] at e2
      simp only [if_true, if_neg (show ¬ (1 : Int32) = 0 by decide), obs, e2]
      refine OK.so ⟨rfl, (hf2.sy rfl).sx rfl, hg2, hp2, ?_, fun x k hx => ?_⟩
      · simp [sx_1]
      · show (sy σ2 0 17 (mml τ g pl i).length (some i)).2 0 17 x = some k
        rw [sy_2]
        rcases gq_snoc hx with c | ⟨c1, c2⟩
        · have := gq_lt c
          rw [if_neg (fun d => by have := d.2.2; omega)]
          exact hm2 x k c
        · rw [if_pos ⟨rfl, rfl, c1⟩, c2]
  · obtain ⟨i', σ2⟩ := s
    obtain ⟨e1, hf2, hg2, hp2, hn2, hm2⟩ := hs'
    simp only at e1 hf2 hg2 hp2 hn2 hm2 ⊢
    subst e1
    rw [(hf2 0 1 3 rfl).1, hq.2.2.1, if_neg (nI_nlt (Nat.le_refl Q) (show Q < 2 ^ 31 by omega))]
    exact OK.so ⟨hf2, hg2, hp2, hn2, hm2⟩
theorem take_both (h : InvB σ τ U P Q T R L E) (a1 a2 : Int32) : (∃ σ' τ', p_Pools_take σ a1 a2 = some (0, σ') ∧ m_isPool τ a1 a2 = some (0, τ') ∧ FrC σ σ' ∧ FrM τ τ') ∨ (∃ σ' τ' g, p_Pools_take σ a1 a2 = some (1, σ') ∧ m_isPool τ a1 a2 = some (1, τ') ∧ TK σ τ P Q g a2 σ' τ' ∧ ¬ a2 < 0) := by
  have hu := h.2.1
  have hU := hu.1
  unfold p_Pools_take m_isPool
  rcases in_or a1 (n := U) (by omega) with ⟨u, huu, rfl⟩ | ⟨hno, hout⟩
  · obtain ⟨g, n, σ', τ', c1, c2, c3, c4, c5, c6, c7, c8⟩ := pools_both h huu
    rw [p_isUnit_t hu huu, m_isUnit_t hu huu, c1, c2]
    simp only [obs, if_neg (show ¬ (1 : Int32) = 0 by decide), c5, lt1_eq]
    rcases in_or a2 (n := n) (by omega) with ⟨pl, hpl, rfl⟩ | ⟨hno, -⟩
    · right
      rw [in0_t hpl (by omega), if_neg (nI_pos (by omega)), if_pos (nI_lt hpl (by omega))]
      simp only [obs, if_neg (show ¬ (1 : Int32) = 0 by decide)]
      obtain ⟨σ2, d1, d2, d3, d4, d5, d6⟩ := p_gather_ok h (pl := nI pl) (c3.sx (d := 0) (j := 2) (k := 4) (v := nI pl) rfl) (fun p hp => (c7 p hp).1) (by simp [sx_1])
      rw [d1]
      exact ⟨σ2, τ', g, rfl, rfl, ⟨d2, c4, fun p hp => ⟨d3 p hp, (c7 p hp).2⟩, d4, d5, d6⟩, nI_pos (by omega)⟩
    · left
      rw [in0_f (by omega) hno]
      simp only [obs, if_true]
      by_cases h0 : a2 < 0
      · rw [if_pos h0]; exact ⟨_, _, rfl, rfl, c3, c4⟩
      · rw [if_neg h0, if_neg (Int32.not_lt.mpr (out_lt (by omega) hno h0))]
        exact ⟨_, _, rfl, rfl, c3, c4⟩
  · left
    rw [p_isUnit_f hu hno, m_isUnit_f hu hno]
    simp only [obs, if_true]
    exact ⟨_, _, rfl, rfl, Fr.refl _, Fr.refl _⟩
end Members
