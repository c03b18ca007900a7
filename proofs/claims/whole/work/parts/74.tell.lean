/-! ===== tell, right ===== -/
theorem cnt_no {p : Nat → Bool} : ∀ {n : Nat}, (∀ j, j < n → p j = false) → cnt p n = 0
  | 0, _ => rfl
  | n + 1, h => by
    unfold cnt
    rw [cnt_no (fun j hj => h j (by omega)), h n (by omega)]
    rfl
theorem cnt_cong {p q : Nat → Bool} : ∀ {n : Nat}, (∀ i, i < n → p i = q i) → cnt p n = cnt q n
  | 0, _ => rfl
  | n + 1, h => by
    unfold cnt
    rw [h n (Nat.lt_succ_self n), cnt_cong (fun i hi => h i (by omega))]
theorem cnt_le {p : Nat → Bool} : ∀ {n : Nat}, cnt p n ≤ n
  | 0 => Nat.le_refl _
  | n + 1 => by
    unfold cnt
    have := cnt_le (p := p) (n := n)
    split <;> omega
/-- the slot of a person's last telling of a kind -/
def sl (w : Int32) : Nat := if w = 0 then 9 else 10
def ntC (σ : St) (T k : Nat) (w v : Int32) : St := sx (sy (sy (sy (sx (sx (sx (sy (clr σ 3 T) 3 T 0 (some k)) 3 T 1 w) 3 T 2 (σ.1 0 1 0)) 3 T 3 v) 3 T 4 (σ.2 2 k (sl w))) 0 12 T (some T)) 2 k (sl w) (some T)) 0 1 4 (nI (T + 1))
def ntM (τ : St) (T k : Nat) (w v : Int32) : St := sx (sx (sx (sx (sx τ 0 19 T (nI k)) 0 20 T w) 0 21 T v) 0 22 T (τ.1 0 0 0)) 0 0 25 (nI (T + 1))
theorem inv_tell {σ τ : St} {U P Q T R L E : Nat} (h : InvB σ τ U P Q T R L E) {k : Nat} (hk : k < Q) {w v : Int32} (hw : w = 0 ∨ w = 1) (hT : T < 120) (hv : Rg 0 (if w = 0 then 100 else 9) v) : InvB (ntC σ T k w v) (ntM τ T k w v) U P Q (T + 1) R L E := by
  obtain ⟨hs, hu, hp, hq, ht, hr, hl, he⟩ := h
  have hP := hp.1
  have hQ := hq.1
  have c1 : ∀ j, (ntC σ T k w v).1 2 j = σ.1 2 j := fun j => by funext i; simp [ntC, clr, sx_1, sy_1]
  have c2 : ∀ j i, ¬ (j = k ∧ i = sl w) → (ntC σ T k w v).2 2 j i = σ.2 2 j i := fun j i hj => by
    simp [ntC, clr, sx_2, sy_2]
    intro e1 e2
    exact absurd ⟨e1, e2⟩ hj
  have c2' : (ntC σ T k w v).2 2 k (sl w) = some T := by simp [ntC, sx_2, sy_2]
  have c3 : ∀ t, t ≠ T → (ntC σ T k w v).1 3 t = σ.1 3 t := fun j hj => by funext i; simp [ntC, clr, sx_1, sy_1, hj]
  have c4 : ∀ t, t ≠ T → (ntC σ T k w v).2 3 t = σ.2 3 t := fun j hj => by funext i; simp [ntC, clr, sx_2, sy_2, hj]
  have m19 : ∀ j, j ≠ T → (ntM τ T k w v).1 0 19 j = τ.1 0 19 j := fun j hj => by simp [ntM, sx_1, hj]
  have m20 : ∀ j, j ≠ T → (ntM τ T k w v).1 0 20 j = τ.1 0 20 j := fun j hj => by simp [ntM, sx_1, hj]
  have m21 : ∀ j, j ≠ T → (ntM τ T k w v).1 0 21 j = τ.1 0 21 j := fun j hj => by simp [ntM, sx_1, hj]
  have m22 : ∀ j, j ≠ T → (ntM τ T k w v).1 0 22 j = τ.1 0 22 j := fun j hj => by simp [ntM, sx_1, hj]
  have m19' : (ntM τ T k w v).1 0 19 T = nI k := by simp [ntM, sx_1]
  have m20' : (ntM τ T k w v).1 0 20 T = w := by simp [ntM, sx_1]
  have m21' : (ntM τ T k w v).1 0 21 T = v := by simp [ntM, sx_1]
  have m22' : (ntM τ T k w v).1 0 22 T = τ.1 0 0 0 := by simp [ntM, sx_1]
  have tk1 : ∀ j x i, i < T → tk (ntM τ T k w v) j x i = tk τ j x i := fun j x i hi => by unfold tk; rw [m19 i (by omega), m20 i (by omega)]
  have lb : ∀ j x n, n ≤ T → lastB (tk (ntM τ T k w v) j x) n = lastB (tk τ j x) n := fun j x n hn => lastB_cong (fun i hi => tk1 j x i (by omega))
  have tkT : ∀ j x, j < 2 ^ 31 → (tk (ntM τ T k w v) j x T = true ↔ j = k ∧ x = w) := by
    intro j x hj
    unfold tk
    rw [m19', m20', decide_eq_true_iff]
    constructor
    · rintro ⟨e1, e2⟩; exact ⟨(nI_inj (by omega) hj e1).symm, e2.symm⟩
    · rintro ⟨e1, e2⟩; exact ⟨by rw [e1], e2.symm⟩
  have hslot : ∀ j x, j < Q → (x = 0 ∨ x = 1) → σ.2 2 j (sl x) = lastB (tk τ j x) T := by
    intro j x hj hx
    obtain ⟨-, -, -, -, -, -, -, -, -, -, -, -, -, -, -, -, b17, b18⟩ := hq.2.2.2 j hj
    rcases hx with rfl | rfl
    · exact b17
    · exact b18
  have hslot' : ∀ j x, j < Q → (x = 0 ∨ x = 1) → (ntC σ T k w v).2 2 j (sl x) = lastB (tk (ntM τ T k w v) j x) (T + 1) := by
    intro j x hj hx
    unfold lastB
    by_cases e : j = k ∧ x = w
    · obtain ⟨rfl, rfl⟩ := e
      rw [if_pos ((tkT j x (by omega)).mpr ⟨rfl, rfl⟩), c2']
    · rw [if_neg (fun c => e ((tkT j x (by omega)).mp c)), lb j x T (Nat.le_refl _), c2 j (sl x) (fun c => e ⟨c.1, ?_⟩), hslot j x hj hx]
      have := c.2
      unfold sl at this
      rcases hx with rfl | rfl <;> rcases hw with rfl | rfl <;> simp at this ⊢
  refine ⟨hs, hu, hp, ⟨hq.1, hq.2.1, hq.2.2.1, fun j hj => ?_⟩, ⟨by omega, rfl, rfl, fun t htt => ?_⟩, ⟨hr.1, hr.2.1, hr.2.2.1, fun r hrr => ?_⟩, hl, he⟩
  · obtain ⟨b1, b2, b3, b4, b5, b6, b7, b8, b9, b10, b11, b12, b13, b14, b15, b16, -⟩ := hq.2.2.2 j hj
    unfold IPe1
    have n4 : (ntC σ T k w v).2 2 j 4 = σ.2 2 j 4 := c2 j 4 (fun c => by have := c.2; unfold sl at this; split at this <;> omega)
    have n5 : (ntC σ T k w v).2 2 j 5 = σ.2 2 j 5 := c2 j 5 (fun c => by have := c.2; unfold sl at this; split at this <;> omega)
    rw [c1, n4, n5]
    exact ⟨b1, b2, b3, b4, b5, b6, b7, b8, b9, b10, b11, b12, b13, b14, b15, b16, hslot' j 0 hj (Or.inl rfl), hslot' j 1 hj (Or.inr rfl)⟩
  · by_cases e : t = T
    · subst e
      have hrk : ∀ j, j < R → rk (ntM τ t k w v) t j = false := by
        intro j hj
        obtain ⟨⟨t', d1, d2, -⟩, -⟩ := hr.2.2.2 j hj
        unfold rk
        refine decide_eq_false (fun c => ?_)
        have c' : τ.1 0 23 j = nI t := c
        rw [d2] at c'
        have := nI_inj (by omega) (by omega) c'
        omega
      unfold ITe1
      rw [m19', m20', m21', m22']
      refine ⟨by simp [ntC, sx_2, sy_2], ⟨k, hk, rfl, by simp [ntC, sx_2, sy_2], ?_⟩, by simp [ntC, sx_1, sy_1], hw, ?_, by simp [ntC, sx_1, sy_1], ⟨hs.2.1.1, Int.le_refl _⟩, hv, ?_, ?_⟩
      · rw [lb k w t (Nat.le_refl _), ← hslot k w hk hw]
        simp [ntC, sx_2, sy_2]
      · rw [← hs.1]; simp [ntC, sx_1, sy_1]
      · rw [lastB_no hrk]
        simp [ntC, sx_2, sy_2, clr]
      · rw [cnt_no hrk]
        simp [ntC, sx_1, sy_1, clr]
        rfl
    · obtain ⟨b1, ⟨k', d1, d2, d3, d4⟩, b3, b4, b5, b6, b7, b8, b9, b10⟩ := ht.2.2.2 t (by omega)
      unfold ITe1
      rw [m19 t e, m20 t e, m21 t e, m22 t e, c3 t e, c4 t e]
      refine ⟨by simpa [ntC, sx_2, sy_2, clr, e] using b1, ⟨k', d1, d2, d3, ?_⟩, b3, b4, b5, b6, b7, b8, b9, b10⟩
      rw [lb k' (τ.1 0 20 t) t (by omega)]
      exact d4
  · obtain ⟨⟨t, d1, d2, d3, d4⟩, b2⟩ := hr.2.2.2 r hrr
    exact ⟨⟨t, by omega, d2, d3, by rw [m20 t (by omega)]; exact d4⟩, b2⟩
theorem s_tell : S_tell Inv := by
  intro σ τ N a1 a2 a3 hI
  obtain ⟨U, L, E, h⟩ := id hI
  obtain ⟨hs, hu, hp, hq, ht, hr, hl, he⟩ := id h
  have hQ := hq.1
  have hT := ht.1
  have rf : ∀ c, Inv (rfC σ c) (rfM τ c) (nup N 3 (N 3)) := fun c => by rw [nup_same]; exact inv_rf hI c
  simp only [p_PE_tell, m_tell, bind_pair, lt1_eq, p_r1, m_r1, p_r2, m_r2, p_r4, m_r4, p_r6, m_r6, obs, p_PE_mostTold]
  rcases in_or a1 (n := N 2) (by omega) with ⟨k, hk, rfl⟩ | ⟨hno, -⟩
  · rw [personAt_t hq hk, isPerson_t hq hk]
    simp only [obs, oes, if_neg (show ¬ (1 : Int32) = 0 by decide)]
    have main : ∀ (w mx : Int32), (w = 0 ∨ w = 1) → mx.toInt = (if w = 0 then 100 else 9) →
        ∃ (r : Int32) (σ' τ' : St) (n' : Nat), (if a3 < 0 then some (((-4 : Int32), rfC σ 4), N 3) else if mx < a3 then some (((-6 : Int32), rfC σ 6), N 3) else if σ.1 0 1 4 < 120 then p_Firm_addTelling σ (N 3) k w a3 else some (((-6 : Int32), rfC σ 6), N 3)) = some ((r, σ'), n') ∧
          (if a3 < 0 then some ((-4 : Int32), rfM τ 4) else if mx < a3 then some ((-6 : Int32), rfM τ 6) else if τ.1 0 0 25 = 120 then some ((-6 : Int32), rfM τ 6) else (ix 120 (τ.1 0 0 25)).bind fun i10 => (ix 120 ((sx τ 0 19 i10 (nI k)).1 0 0 25)).bind fun i12 => (ix 120 ((sx (sx τ 0 19 i10 (nI k)) 0 20 i12 w).1 0 0 25)).bind fun i14 => (ix 120 ((sx (sx (sx τ 0 19 i10 (nI k)) 0 20 i12 w) 0 21 i14 a3).1 0 0 25)).bind fun i16 => some ((sx (sx (sx (sx (sx τ 0 19 i10 (nI k)) 0 20 i12 w) 0 21 i14 a3) 0 22 i16 ((sx (sx (sx τ 0 19 i10 (nI k)) 0 20 i12 w) 0 21 i14 a3).1 0 0 0)) 0 0 25 ((sx (sx (sx (sx τ 0 19 i10 (nI k)) 0 20 i12 w) 0 21 i14 a3) 0 22 i16 ((sx (sx (sx τ 0 19 i10 (nI k)) 0 20 i12 w) 0 21 i14 a3).1 0 0 0)).1 0 0 25 + 1)).1 0 0 25 - 1, sx (sx (sx (sx (sx τ 0 19 i10 (nI k)) 0 20 i12 w) 0 21 i14 a3) 0 22 i16 ((sx (sx (sx τ 0 19 i10 (nI k)) 0 20 i12 w) 0 21 i14 a3).1 0 0 0)) 0 0 25 ((sx (sx (sx (sx τ 0 19 i10 (nI k)) 0 20 i12 w) 0 21 i14 a3) 0 22 i16 ((sx (sx (sx τ 0 19 i10 (nI k)) 0 20 i12 w) 0 21 i14 a3).1 0 0 0)).1 0 0 25 + 1))) = some (r, τ') ∧ Inv σ' τ' (nup N 3 n') := by
      intro w mx hw hmx
      by_cases h1 : a3 < 0
      · simp only [if_pos h1]; exact ⟨_, _, _, _, rfl, rfl, rf 4⟩
      by_cases h2 : mx < a3
      · simp only [if_neg h1, if_pos h2]; exact ⟨_, _, _, _, rfl, rfl, rf 6⟩
      simp only [if_neg h1, if_neg h2, ht.2.1, ht.2.2.1]
      by_cases h9 : N 3 = 120
      · rw [h9, if_neg (show ¬ nI 120 < 120 by decide), if_pos (show nI 120 = 120 from rfl)]
        exact ⟨_, _, _, _, rfl, rfl, by rw [← h9]; exact rf 6⟩
      have hlt : N 3 < 120 := by omega
      have g1 : nI (N 3) < (120 : Int32) := nI_lt (b := 120) hlt (by decide)
      have g2 : ¬ nI (N 3) = (120 : Int32) := fun e => h9 (nI_inj (by omega) (by decide) (b := 120) e)
      rw [if_pos g1, if_neg g2]
      have ep : p_Firm_addTelling σ (N 3) k w a3 = some ((nI (N 3), ntC σ (N 3) k w a3), N 3 + 1) := by
        unfold p_Firm_addTelling
        rw [ht.2.2.1, if_pos g1]
        rcases hw with rfl | rfl
        · simp [lt1_eq, p_Person_lastTold, p_Telling_init, ix_nI hlt (show 120 < 2 ^ 31 by decide), p_Person_add, sx_1, sy_1, clr, ht.2.2.1, nI_1, ntC, sl]
        · simp [lt1_eq, p_Person_lastTold, p_Telling_init, ix_nI hlt (show 120 < 2 ^ 31 by decide), p_Person_add, sx_1, sy_1, clr, ht.2.2.1, nI_1, ntC, sl]
      rw [ep]
      refine ⟨_, _, ntM τ (N 3) k w a3, _, rfl, ?_, U, L, E, ?_⟩
      · simp [ix_nI hlt (show 120 < 2 ^ 31 by decide), sx_1, ht.2.1, nI_1, nI_pred, ntM]
      · exact inv_tell h hk hw hlt (Rg.mk h1 h2 rfl hmx)
    rcases in_or a2 (n := 2) (by decide) with ⟨w, hw, rfl⟩ | ⟨hno, -⟩
    · rw [inl_t 1 (c := 1) rfl (by omega) (by decide)]
      rcases (show w = 0 ∨ w = 1 by omega) with rfl | rfl
      · simp only [obs, if_neg (show ¬ (1 : Int32) = 0 by decide), if_pos (show nI 0 = 0 from rfl)]
        exact main (nI 0) 100 (Or.inl rfl) rfl
      · simp only [obs, if_neg (show ¬ (1 : Int32) = 0 by decide), if_neg (show ¬ nI 1 = 0 by decide), if_pos (show nI 1 = 1 from rfl)]
        exact main (nI 1) 9 (Or.inr rfl) rfl
    · rw [inl_f 1 (c := 1) rfl (by decide) (fun k hk => hno k (by omega)), if_neg (show ¬ a2 = 0 from hno 0 (by omega)), if_neg (show ¬ a2 = 1 from hno 1 (by omega))]
      simp only [obs, if_true]
      exact ⟨_, _, _, _, rfl, rfl, rf 2⟩
  · rw [personAt_f hq hno, isPerson_f hq hno]
    simp only [obs, oen, if_true]
    exact ⟨_, _, _, _, rfl, rfl, rf 1⟩
