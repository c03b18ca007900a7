/-! ===== chain, chainOf ===== -/
section Chain3
variable {σ τ : St} {U P Q T R L E : Nat}
theorem bmp_fr {τ' : St} (hf : FrM τ τ') (f : Nat → Int32) (k : Nat) : ∀ n, bmp τ' f k n = bmp τ f k n := by
  have hh : ∀ o, hN τ' o = hN τ o := fun o => by unfold hN; rw [(hf 0 12 o rfl).1]
  have hm : ∀ o, mbB τ' f k o = mbB τ f k o := fun o => by
    unfold mbB mbF skl
    simp only [hh, (hf 0 12 o rfl).1, (hf 0 15 o rfl).1, (hf 0 0 0 rfl).1, (hf 0 4 _ rfl).1, (hf 0 5 _ rfl).1, (hf 0 7 _ rfl).1, (hf 0 9 _ rfl).1]
  have hb : ∀ o b, btB τ' f o b = btB τ f o b := fun o b => by
    unfold btB
    simp only [hh, (hf 0 5 _ rfl).1]
  intro n
  induction n with
  | zero => rfl
  | succ n ih =>
    show (if mbB τ' f k n then Option.elim (bmp τ' f k n) (some n) (fun b => if btB τ' f n b then some n else some b) else bmp τ' f k n) = (if mbB τ f k n then Option.elim (bmp τ f k n) (some n) (fun b => if btB τ f n b then some n else some b) else bmp τ f k n)
    rw [ih, hm]
    simp only [hb]
theorem p_bgather_ok (h : InvB σ τ U P Q T R L E) : OK (p_Bumping_gatherMarks σ) (fun σ' => FrC σ σ' ∧ ∀ k, k < Q → σ'.1 0 26 k = mk τ T R k (τ.1 0 0 0)) := by
  have hq := h.2.2.2.1
  have hQ := hq.1
  unfold p_Bumping_gatherMarks
  refine OK.bi (OK.mono (R := fun σ' => FrC σ σ' ∧ ∀ k, k < Q → σ'.1 0 26 k = mk τ T R k (τ.1 0 0 0)) ?_ (fun s hs' => OK.so hs'))
  refine OK.itr Q (fun i s => s.1 = nI i ∧ FrC σ s.2 ∧ ∀ k, k < i → s.2.1 0 26 k = mk τ T R k (τ.1 0 0 0)) ⟨rfl, Fr.refl _, fun k hk => by omega⟩ (fun i s hi hs' => ?_) (fun s hs' => ?_) (FU_lt (by omega))
  · obtain ⟨i', σ2⟩ := s
    obtain ⟨e1, hf, hk⟩ := hs'
    simp only at e1 hf hk ⊢
    subst e1
    have h2 := h.frC hf
    have hmk : p_Firm_markAsOf σ2 i (σ2.1 0 1 0) = some (mk τ T R i (τ.1 0 0 0)) := by
      rw [h2.1.1, p_mark_eq h2.1 h2.2.2.1 h2.2.2.2.1 h2.2.2.2.2.1 h2.2.2.2.2.2.1 hi]
    rw [(hf 0 1 3 rfl).1, hq.2.2.1, if_pos (nI_lt hi (show Q < 2 ^ 31 by omega)), if_pos (show nI i < 40 from nI_lt (b := 40) (by omega) (by decide)), personAt_t h2.2.2.2.1 hi]
    simp only [obs, oes, hmk, ix_nI (show i < 40 by omega) (show 40 < 2 ^ 31 by decide), lt1_eq, nI_1]
    refine OK.so ⟨rfl, hf.sx rfl, fun k hk' => ?_⟩
    show (sx σ2 0 26 i (mk τ T R i (τ.1 0 0 0))).1 0 26 k = _
    rw [sx_1]
    by_cases e : k = i
    · subst e; rw [if_pos ⟨rfl, rfl, rfl⟩]
    · rw [if_neg (fun c => e c.2.2)]
      exact hk k (by omega)
  · obtain ⟨i', σ2⟩ := s
    obtain ⟨e1, hf, hk⟩ := hs'
    simp only at e1 hf hk ⊢
    subst e1
    rw [(hf 0 1 3 rfl).1, hq.2.2.1, if_neg (nI_nlt (Nat.le_refl Q) (show Q < 2 ^ 31 by omega))]
    exact OK.so ⟨hf, hk⟩
theorem p_follow_ok (h : InvB σ τ U P Q T R L E) {f : Nat → Int32} (hF : ∀ k, mk τ T R k (τ.1 0 0 0) = f k) {k M : Nat} (hk : k < Q) (hM : M ≤ 39) (h1 : ∀ i, i < M → bmp τ f (cs τ f Q k i) Q = some (cs τ f Q k (i + 1))) (h2 : bmp τ f (cs τ f Q k M) Q = none) (h3 : ∀ i, i ≤ M → cs τ f Q k i < Q ∧ ¬ τ.1 0 12 (cs τ f Q k i) < 0) : OK (p_Bumping_follow σ k) (fun σ' => FrC σ σ' ∧ σ'.1 0 5 3 = nI M ∧ ∀ j, j ≤ M → σ'.2 0 27 j = some (cs τ f Q k j)) := by
  obtain ⟨σ1, g1, g2, g3⟩ := p_bgather_ok h
  have hbm : ∀ σ', FrC σ σ' → (∀ k, k < Q → σ'.1 0 26 k = f k) → ∀ i, i ≤ M → p_Bumping_bumpedBy σ' (cs τ f Q k i) = some (bmp τ f (cs τ f Q k i) Q) := by
    intro σ' hf h26 i hi
    have h' := h.frC hf
    exact p_bumped_eq h'.1 h'.2.2.1 h'.2.2.2.1 h26 (h3 i hi).1 (h3 i hi).2
  unfold p_Bumping_follow
  rw [g1, obs, lt1_eq, show ix 40 (0 : Int32) = some 0 from rfl, obs, lt1_eq]
  have hf5 : FrC σ (sy (sx σ1 0 5 3 0) 0 27 0 (some k)) := (g2.sx rfl).sy rfl
  have hb0 := hbm _ hf5 (fun k' hk' => by rw [← hF]; exact g3 k' hk') 0 (Nat.zero_le _)
  have hb0' : p_Bumping_bumpedBy (sy (sx σ1 0 5 3 0) 0 27 0 (some k)) k = some (bmp τ f (cs τ f Q k 0) Q) := hb0
  rw [hb0', obs]
  refine OK.bi (OK.mono (R := fun σ' => FrC σ σ' ∧ σ'.1 0 5 3 = nI M ∧ ∀ j, j ≤ M → σ'.2 0 27 j = some (cs τ f Q k j)) ?_ (fun s hs' => OK.so hs'))
  refine OK.itr M (fun i s => s.1 = bmp τ f (cs τ f Q k i) Q ∧ FrC σ s.2 ∧ (∀ k, k < Q → s.2.1 0 26 k = f k) ∧ s.2.1 0 5 3 = nI i ∧ ∀ j, j ≤ i → s.2.2 0 27 j = some (cs τ f Q k j)) ⟨rfl, hf5, fun k' hk' => by rw [← hF]; exact g3 k' hk', rfl, fun j hj => ?_⟩ (fun i s hi hs' => ?_) (fun s hs' => ?_) (FU_lt (by omega))
  · have : j = 0 := by omega
    subst this
    simp [sy_2]
    rfl
  · obtain ⟨x, σ2⟩ := s
    obtain ⟨e1, hf, h26, h53, hrow⟩ := hs'
    simp only at e1 hf h26 h53 hrow ⊢
    rw [h1 i hi] at e1
    subst e1
    have e5 : (sx σ2 0 5 3 (nI (i + 1))).1 0 5 3 = nI (i + 1) := by simp [sx_1]
    have hfn : FrC σ (sy (sx σ2 0 5 3 (nI (i + 1))) 0 27 (i + 1) (some (cs τ f Q k (i + 1)))) := (hf.sx rfl).sy rfl
    rw [lt1_eq, oes, h53, nI_1, if_pos (show nI (i + 1) < 40 from nI_lt (b := 40) (by omega) (by decide)), lt1_eq, e5, ix_nI (show i + 1 < 40 by omega) (by decide), obs, lt1_eq, hbm _ hfn h26 (i + 1) (by omega), obs]
    refine OK.so ⟨rfl, hfn, h26, e5, fun j hj => ?_⟩
    show (sy (sx σ2 0 5 3 (nI (i + 1))) 0 27 (i + 1) (some (cs τ f Q k (i + 1)))).2 0 27 j = _
    rw [sy_2]
    by_cases e : j = i + 1
    · subst e; rw [if_pos ⟨rfl, rfl, rfl⟩]
    · rw [if_neg (fun c => e c.2.2)]
      exact hrow j (by omega)
  · obtain ⟨x, σ2⟩ := s
    obtain ⟨e1, hf, h26, h53, hrow⟩ := hs'
    simp only at e1 hf h26 h53 hrow ⊢
    rw [h2] at e1
    subst e1
    rw [lt1_eq, oen]
    exact OK.so ⟨hf, h53, hrow⟩
set_option maxHeartbeats 400000 in
theorem m_chain_ok (h : InvB σ τ U P Q T R L E) {f : Nat → Int32} (hF : ∀ k, mk τ T R k (τ.1 0 0 0) = f k) {k M : Nat} (hk : k < Q) (hM : M ≤ 39) (h1 : ∀ i, i < M → bmp τ f (cs τ f Q k i) Q = some (cs τ f Q k (i + 1))) (h2 : bmp τ f (cs τ f Q k M) Q = none) (h3 : ∀ i, i ≤ M → cs τ f Q k i < Q ∧ ¬ τ.1 0 12 (cs τ f Q k i) < 0) (h4 : ∀ i j, i ≤ j → j ≤ M → (f (cs τ f Q k j)).toInt ≤ (f (cs τ f Q k i)).toInt) : OK (m_findChain τ (nI k)) (fun τ' => FrM τ τ' ∧ τ'.1 0 0 51 = nI M ∧ τ'.1 0 0 52 = nI (cs τ f Q k M) ∧ ∀ j, j < M → τ'.1 0 33 j = nI (cs τ f Q k j) ∧ τ'.1 0 34 j = τ.1 0 12 (cs τ f Q k (j + 1)) ∧ τ'.1 0 35 j = nI (cs τ f Q k (j + 1))) := by
  have hQ := h.2.2.2.1.1
  -- the search at a state on the way
  have htk : ∀ τ', FrM τ τ' → ∀ i, i ≤ M → τ'.1 0 0 51 = nI i → (∀ j, j < i → τ'.1 0 33 j = nI (cs τ f Q k j) ∧ τ'.1 0 35 j = nI (cs τ f Q k (j + 1))) → m_takes τ' (nI (cs τ f Q k i)) (nI k) = some (oI (bmp τ f (cs τ f Q k i) Q)) := by
    intro τ' hf i hi h51 hmv
    have hw := h.wk.fr hf
    rw [m_takes_eq hw (f := f) (fun k' => by rw [(hf 0 0 0 rfl).1, mk_fr hf, hF]) (show i ≤ 40 by omega) h51 (h3 i hi).1 hk (by rw [(hf 0 12 _ rfl).1]; exact (h3 i hi).2) (by have := h4 0 i (Nat.zero_le _) hi; rw [i_lt]; show ¬ (f (cs τ f Q k 0)).toInt < _; omega) (fun j hj => ⟨cs τ f Q k j, cs τ f Q k (j + 1), (h3 j (by omega)).1, (h3 (j + 1) (by omega)).1, (hmv j hj).1, (hmv j hj).2, by have := h4 j i (by omega) hi; rw [i_lt]; omega, by have := h4 (j + 1) i (by omega) hi; rw [i_lt]; omega⟩), bmp_fr hf]
  unfold m_findChain
  rw [lt1_eq, lt1_eq]
  have hf0 : FrM τ (sx (sx τ 0 0 51 0) 0 0 52 (nI k)) := ((Fr.refl τ).sx rfl).sx rfl
  have ht0 : m_takes (sx (sx τ 0 0 51 0) 0 0 52 (nI k)) (nI k) (nI k) = some (oI (bmp τ f (cs τ f Q k 0) Q)) := htk _ hf0 0 (Nat.zero_le _) rfl (fun j hj => by omega)
  rw [ht0, obs]
  refine OK.bi (OK.mono (R := fun τ' => FrM τ τ' ∧ τ'.1 0 0 51 = nI M ∧ τ'.1 0 0 52 = nI (cs τ f Q k M) ∧ ∀ j, j < M → τ'.1 0 33 j = nI (cs τ f Q k j) ∧ τ'.1 0 34 j = τ.1 0 12 (cs τ f Q k (j + 1)) ∧ τ'.1 0 35 j = nI (cs τ f Q k (j + 1))) ?_ (fun s hs' => OK.so hs'))
  refine OK.itr M (fun i s => s.1 = oI (bmp τ f (cs τ f Q k i) Q) ∧ FrM τ s.2 ∧ s.2.1 0 0 51 = nI i ∧ s.2.1 0 0 52 = nI (cs τ f Q k i) ∧ ∀ j, j < i → s.2.1 0 33 j = nI (cs τ f Q k j) ∧ s.2.1 0 34 j = τ.1 0 12 (cs τ f Q k (j + 1)) ∧ s.2.1 0 35 j = nI (cs τ f Q k (j + 1))) ⟨rfl, hf0, rfl, rfl, fun j hj => by omega⟩ (fun i s hi hs' => ?_) (fun s hs' => ?_) (FU_lt (by omega))
  · obtain ⟨x, τ1⟩ := s
    obtain ⟨e1, hf, h51, h52, hrow⟩ := hs'
    simp only at e1 hf h51 h52 hrow ⊢
    rw [h1 i hi, oI_some] at e1
    subst e1
    have hc := (h3 (i + 1) (by omega)).1
    generalize hcc : cs τ f Q k (i + 1) = c at *
    rw [if_neg (nI_pos (by omega)), h51, ix_nI (show i < 41 by omega) (by decide), obs, lt1_eq, ix_nI (show c < 40 by omega) (by decide), obs]
    have a1 : (sx τ1 0 33 i (τ1.1 0 0 52)).1 0 0 51 = nI i := h51
    rw [a1, ix_nI (show i < 41 by omega) (by decide), obs, lt1_eq]
    have a2 : (sx τ1 0 33 i (τ1.1 0 0 52)).1 0 12 c = τ.1 0 12 c := (hf 0 12 c rfl).1
    rw [a2]
    have a3 : (sx (sx τ1 0 33 i (τ1.1 0 0 52)) 0 34 i (τ.1 0 12 c)).1 0 0 51 = nI i := h51
    rw [a3, ix_nI (show i < 41 by omega) (by decide), obs, lt1_eq, lt1_eq, lt1_eq]
    have a4 : (sx (sx (sx τ1 0 33 i (τ1.1 0 0 52)) 0 34 i (τ.1 0 12 c)) 0 35 i (nI c)).1 0 0 51 = nI i := h51
    rw [a4, nI_1]
    have hfn : FrM τ (sx (sx (sx (sx (sx τ1 0 33 i (τ1.1 0 0 52)) 0 34 i (τ.1 0 12 c)) 0 35 i (nI c)) 0 0 51 (nI (i + 1))) 0 0 52 (nI c)) := ((((hf.sx rfl).sx rfl).sx rfl).sx rfl).sx rfl
    have hrn : ∀ j, j < i + 1 → (sx (sx (sx (sx (sx τ1 0 33 i (τ1.1 0 0 52)) 0 34 i (τ.1 0 12 c)) 0 35 i (nI c)) 0 0 51 (nI (i + 1))) 0 0 52 (nI c)).1 0 33 j = nI (cs τ f Q k j) ∧ (sx (sx (sx (sx (sx τ1 0 33 i (τ1.1 0 0 52)) 0 34 i (τ.1 0 12 c)) 0 35 i (nI c)) 0 0 51 (nI (i + 1))) 0 0 52 (nI c)).1 0 34 j = τ.1 0 12 (cs τ f Q k (j + 1)) ∧ (sx (sx (sx (sx (sx τ1 0 33 i (τ1.1 0 0 52)) 0 34 i (τ.1 0 12 c)) 0 35 i (nI c)) 0 0 51 (nI (i + 1))) 0 0 52 (nI c)).1 0 35 j = nI (cs τ f Q k (j + 1)) := by
      intro j hj
      by_cases e : j = i
      · subst e
        rw [hcc]
        refine ⟨?_, ?_, ?_⟩
        · simp [sx_1, h52]
        · simp [sx_1]
        · simp [sx_1]
      · obtain ⟨d1, d2, d3⟩ := hrow j (by omega)
        refine ⟨?_, ?_, ?_⟩
        · simp [sx_1, e, d1]
        · simp [sx_1, e, d2]
        · simp [sx_1, e, d3]
    have e52 : (sx (sx (sx (sx (sx τ1 0 33 i (τ1.1 0 0 52)) 0 34 i (τ.1 0 12 c)) 0 35 i (nI c)) 0 0 51 (nI (i + 1))) 0 0 52 (nI c)).1 0 0 52 = nI c := by simp [sx_1]
    have e51 : (sx (sx (sx (sx (sx τ1 0 33 i (τ1.1 0 0 52)) 0 34 i (τ.1 0 12 c)) 0 35 i (nI c)) 0 0 51 (nI (i + 1))) 0 0 52 (nI c)).1 0 0 51 = nI (i + 1) := by simp [sx_1]
    have htn := htk _ hfn (i + 1) (by omega) e51 (fun j hj => ⟨(hrn j hj).1, (hrn j hj).2.2⟩)
    rw [hcc] at htn
    rw [e52, htn, obs]
    refine OK.so ⟨?_, hfn, e51, ?_, hrn⟩
    · rfl
    · exact e52
  · obtain ⟨x, τ1⟩ := s
    obtain ⟨e1, hf, h51, h52, hrow⟩ := hs'
    simp only at e1 hf h51 h52 hrow ⊢
    rw [h2, oI_none] at e1
    subst e1
    rw [if_pos (show (-1 : Int32) < 0 by decide)]
    exact OK.so ⟨hf, h51, h52, hrow⟩
/-- both chains -/
theorem chain_both (h : InvB σ τ U P Q T R L E) {k : Nat} (hk : k < Q) (hh : ¬ τ.1 0 12 k < 0) : ∃ (M : Nat) (c : Nat → Nat) (σ' τ' : St), M ≤ 39 ∧ (∀ i, i ≤ M → c i < Q ∧ ¬ τ.1 0 12 (c i) < 0) ∧ p_Bumping_follow σ k = some σ' ∧ m_findChain τ (nI k) = some τ' ∧ FrC σ σ' ∧ FrM τ τ' ∧ σ'.1 0 5 3 = nI M ∧ (∀ j, j ≤ M → σ'.2 0 27 j = some (c j)) ∧ τ'.1 0 0 51 = nI M ∧ τ'.1 0 0 52 = nI (c M) ∧ ∀ j, j < M → τ'.1 0 33 j = nI (c j) ∧ τ'.1 0 34 j = τ.1 0 12 (c (j + 1)) ∧ τ'.1 0 35 j = nI (c (j + 1)) := by
  obtain ⟨M, m1, m2, m3, m4, m5⟩ := cs_end (τ := τ) (f := fun k => mk τ T R k (τ.1 0 0 0)) h.2.2.2.1.1 hk hh
  obtain ⟨σ', a1, a2, a3, a4⟩ := p_follow_ok h (fun _ => rfl) hk m1 m2 m3 m4
  obtain ⟨τ', b1, b2, b3, b4, b5⟩ := m_chain_ok h (fun _ => rfl) hk m1 m2 m3 m4 m5
  exact ⟨M, cs τ (fun k => mk τ T R k (τ.1 0 0 0)) Q k, σ', τ', m1, m4, a1, b1, a2, b2, a3, a4, b3, b4, b5⟩
end Chain3
theorem s_chain : S_chain Inv := by
  intro σ τ N a1 hI
  obtain ⟨U, L, E, h⟩ := id hI
  obtain ⟨hs, hu, hp, hq, ht, hr, hl, he⟩ := id h
  have hQ := hq.1
  have hP := hp.1
  unfold p_PE_chain m_chain
  rcases in_or a1 (n := N 2) (by omega) with ⟨k, hk, rfl⟩ | ⟨hno, -⟩
  · rw [personAt_t hq hk, isPerson_t hq hk, obs, obs, oes, if_neg (show ¬ (1 : Int32) = 0 by decide), (isHere_eq hq hk).2, obs, ix_nI (show k < 40 by omega) (by decide), obs, lt1_eq, p_r3, m_r3, obs, obs]
    by_cases hh : τ.1 0 12 k < 0
    · rw [hold_no hP hq hk hh, oen, if_pos hh]
      by_cases h0 : τ.1 0 14 k < 0
      · rw [bI_t h0, if_neg (show ¬ (1 : Int32) = 0 by decide)]
        exact ⟨-3, rfC σ 3, rfM τ 3, rfl, rfl, inv_rf hI 3⟩
      · rw [bI_f h0, if_pos rfl]
        exact ⟨-3, rfC σ 3, rfM τ 3, rfl, rfl, inv_rf hI 3⟩
    · obtain ⟨k1, k2, k3, k4⟩ := hold_nI hp hq hk hh
      obtain ⟨M, c, σ', τ', m1, m2, a1, b1, a2, b2, a3, a4, b3, b4, b5⟩ := chain_both h hk hh
      rw [k2, oes, if_neg hh, bI_t k4, if_neg (show ¬ (1 : Int32) = 0 by decide), a1, b1, obs, obs, a3, b3]
      exact ⟨nI M, σ', τ', rfl, rfl, hI.fr a2 b2⟩
  · rw [personAt_f hq hno, isPerson_f hq hno, obs, obs, oen, if_pos rfl, p_r1, m_r1, obs, obs]
    exact ⟨-1, rfC σ 1, rfM τ 1, rfl, rfl, inv_rf hI 1⟩
theorem s_chainOf : S_chainOf Inv := by
  intro σ τ N a1 a2 a3 hI
  obtain ⟨U, L, E, h⟩ := id hI
  obtain ⟨hs, hu, hp, hq, ht, hr, hl, he⟩ := id h
  have hQ := hq.1
  have hP := hp.1
  unfold p_PE_chainOf m_chainOf
  rcases in_or a1 (n := N 2) (by omega) with ⟨k, hk, rfl⟩ | ⟨hno, -⟩
  · rw [personAt_t hq hk, isPerson_t hq hk, obs, obs, oes, if_neg (show ¬ (1 : Int32) = 0 by decide)]
    rcases in_or a3 (n := 4) (by decide) with ⟨w, hw, rfl⟩ | ⟨hno, -⟩
    · rw [inl_t 3 (c := 3) rfl (by omega) (by decide), obs, if_neg (show ¬ (1 : Int32) = 0 by decide), if_neg (nI_pos (show w < 2 ^ 31 by omega)), if_neg (show ¬ (3 : Int32) < nI w from nI_nlt (a := 3) (by omega) (by decide)), (isHere_eq hq hk).2, obs, ix_nI (show k < 40 by omega) (by decide), obs, lt1_eq, p_r3, m_r3, obs, obs]
      by_cases hh : τ.1 0 12 k < 0
      · rw [hold_no hP hq hk hh, oen, if_pos hh]
        by_cases h0 : τ.1 0 14 k < 0
        · rw [bI_t h0, if_neg (show ¬ (1 : Int32) = 0 by decide)]
          exact ⟨-3, rfC σ 3, rfM τ 3, rfl, rfl, inv_rf hI 3⟩
        · rw [bI_f h0, if_pos rfl]
          exact ⟨-3, rfC σ 3, rfM τ 3, rfl, rfl, inv_rf hI 3⟩
      · obtain ⟨k1, k2, k3, k4⟩ := hold_nI hp hq hk hh
        obtain ⟨M, c, σ', τ', m1, m2, p1, b1, p2, b2, p3, p4, b3, b4, b5⟩ := chain_both h hk hh
        have hq' := (h.frC p2).2.2.2.1
        have hp' := (h.frC p2).2.2.1
        have hfin := hI.fr p2 b2
        rw [k2, oes, if_neg hh, bI_t k4, if_neg (show ¬ (1 : Int32) = 0 by decide), p1, b1, obs, obs]
        have hafter : ∀ j, j ≤ M → p_Bumping_personAfter σ' (nI j) = some (nI (c j)) := by
          intro j hj
          unfold p_Bumping_personAfter
          rw [if_neg (nI_pos (by omega)), p3, if_neg (nI_nlt hj (by omega)), if_pos (show nI j < 40 from nI_lt (b := 40) (by omega) (by decide)), ix_nI (show j < 40 by omega) (by decide), obs, lt1_eq, p4 j hj, obs, oes, (hq'.2.2.2 (c j) (m2 j hj).1).2.1]
        by_cases h3 : w = 3
        · subst h3
          rw [if_pos (show nI 3 = 3 from rfl), if_pos (show nI 3 = 3 from rfl), p3, hafter M (Nat.le_refl _), obs, b4]
          exact ⟨nI (c M), σ', τ', rfl, rfl, hfin⟩
        · have h3' : ¬ nI w = 3 := fun e => h3 (nI_inj (by omega) (by decide) (b := 3) e)
          rw [if_neg h3', if_neg h3', b3, p3]
          rcases in_or a2 (n := M) (by omega) with ⟨j, hj, rfl⟩ | ⟨hno, -⟩
          · obtain ⟨d1, d2, d3⟩ := b5 j hj
            obtain ⟨e1, e2⟩ := m2 (j + 1) (by omega)
            obtain ⟨o1, o2, o3, o4⟩ := hold_nI hp hq e1 e2
            rw [in0_t hj (by omega), obs, if_neg (show ¬ (1 : Int32) = 0 by decide), if_neg (nI_pos (show j < 2 ^ 31 by omega)), if_pos (nI_lt hj (by omega)), ix_nI (show j < 41 by omega) (by decide), obs, obs, obs, d1, d2, d3, nI_1]
            rcases (show w = 0 ∨ w = 1 ∨ w = 2 by omega) with rfl | rfl | rfl
            · rw [if_neg (show ¬ nI 0 = 1 by decide), if_pos (show nI 0 = 0 from rfl), if_pos (show nI 0 = 0 from rfl), obs, hafter j (by omega), obs]
              exact ⟨nI (c j), σ', τ', rfl, rfl, hfin⟩
            · have hpo : p_Bumping_postOf σ' (nI j) = some (τ.1 0 12 (c (j + 1))) := by
                unfold p_Bumping_postOf
                have q2 : σ'.2 2 (c (j + 1)) 4 = some (hN τ (c (j + 1))) := by rw [(p2 2 (c (j + 1)) 4 rfl).2]; exact o2
                rw [if_neg (nI_pos (show j < 2 ^ 31 by omega)), p3, if_pos (nI_lt hj (by omega)), nI_1, if_pos (show nI (j + 1) < 40 from nI_lt (b := 40) (by omega) (by decide)), ix_nI (show j + 1 < 40 by omega) (by decide), obs, lt1_eq, p4 (j + 1) (by omega), obs, oes, lt1_eq, q2, obs, oes, (hp'.2.2.2 _ o1).2.1, o3]
              rw [if_pos (show nI 1 = 1 from rfl), if_neg (show ¬ nI 1 = 0 by decide), if_pos (show nI 1 = 1 from rfl), hpo, obs]
              exact ⟨_, σ', τ', rfl, rfl, hfin⟩
            · rw [if_neg (show ¬ nI 2 = 1 by decide), if_neg (show ¬ nI 2 = 0 by decide), if_neg (show ¬ nI 2 = 0 by decide), if_neg (show ¬ nI 2 = 1 by decide), obs, hafter (j + 1) (by omega), obs]
              exact ⟨nI (c (j + 1)), σ', τ', rfl, rfl, hfin⟩
          · rw [in0_f (by omega) hno, obs, if_pos rfl, m_r1, obs]
            by_cases h0 : a2 < 0
            · rw [if_pos h0, p_r1, obs]
              exact ⟨-1, rfC σ' 1, rfM τ' 1, rfl, rfl, inv_rf hfin 1⟩
            · rw [if_neg h0, if_neg (Int32.not_lt.mpr (out_lt (by omega) hno h0)), p_r1, obs]
              exact ⟨-1, rfC σ' 1, rfM τ' 1, rfl, rfl, inv_rf hfin 1⟩
    · rw [inl_f 3 (c := 3) rfl (by decide) (fun k hk => hno k (by omega)), obs, if_pos rfl, m_r2, obs]
      by_cases h1 : a3 < 0
      · rw [if_pos h1, p_r2, obs]
        exact ⟨-2, rfC σ 2, rfM τ 2, rfl, rfl, inv_rf hI 2⟩
      · have h3 := out_lt (by decide) hno h1
        have h4 : (3 : Int32) < a3 := by
          rw [i_le] at h3
          rw [i_lt]
          have e1 : (nI 4).toInt = 4 := rfl
          have e2 : (3 : Int32).toInt = 3 := rfl
          omega
        rw [if_neg h1, if_pos h4, p_r2, obs]
        exact ⟨-2, rfC σ 2, rfM τ 2, rfl, rfl, inv_rf hI 2⟩
  · rw [personAt_f hq hno, isPerson_f hq hno, obs, obs, oen, if_pos rfl, p_r1, m_r1, obs, obs]
    exact ⟨-1, rfC σ 1, rfM τ 1, rfl, rfl, inv_rf hI 1⟩
