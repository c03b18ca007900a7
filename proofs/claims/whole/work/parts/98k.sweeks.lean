/-! ===== weeks, weekOf ===== -/
theorem parting_cases (a2 a3 a4 a5 : Int32) : (p_PE_refusalOfParting a2 a3 a4 a5 = some (-4) ∧ m_wrongWeeks a2 a3 a4 a5 = some (-4)) ∨ (p_PE_refusalOfParting a2 a3 a4 a5 = some (-6) ∧ m_wrongWeeks a2 a3 a4 a5 = some (-6)) ∨ (p_PE_refusalOfParting a2 a3 a4 a5 = some 0 ∧ m_wrongWeeks a2 a3 a4 a5 = some 0 ∧ ∃ m lw st : Nat, 1 ≤ m ∧ m ≤ 200 ∧ lw ≤ 5 ∧ 1 ≤ st ∧ st ≤ 50 ∧ a2 = nI m ∧ a3 = nI (lw + 1) ∧ a4 = nI st) := by
  have e : m_wrongWeeks a2 a3 a4 a5 = p_PE_refusalOfParting a2 a3 a4 a5 := rfl
  rw [e]
  unfold p_PE_refusalOfParting
  by_cases h1 : a2 < 1
  · rw [if_pos h1]; exact Or.inl ⟨rfl, rfl⟩
  by_cases h2 : a3 < 1
  · rw [if_neg h1, if_pos h2]; exact Or.inl ⟨rfl, rfl⟩
  by_cases h3 : a4 < 1
  · rw [if_neg h1, if_neg h2, if_pos h3]; exact Or.inl ⟨rfl, rfl⟩
  by_cases h4 : a5 < 1
  · rw [if_neg h1, if_neg h2, if_neg h3, if_pos h4]; exact Or.inl ⟨rfl, rfl⟩
  by_cases h5 : (200 : Int32) < a2
  · rw [if_neg h1, if_neg h2, if_neg h3, if_neg h4, if_pos h5]; exact Or.inr (Or.inl ⟨rfl, rfl⟩)
  by_cases h6 : (6 : Int32) < a3
  · rw [if_neg h1, if_neg h2, if_neg h3, if_neg h4, if_neg h5, if_pos h6]; exact Or.inr (Or.inl ⟨rfl, rfl⟩)
  by_cases h7 : (50 : Int32) < a4
  · rw [if_neg h1, if_neg h2, if_neg h3, if_neg h4, if_neg h5, if_neg h6, if_pos h7]; exact Or.inr (Or.inl ⟨rfl, rfl⟩)
  by_cases h8 : (9999 : Int32) < a5
  · rw [if_neg h1, if_neg h2, if_neg h3, if_neg h4, if_neg h5, if_neg h6, if_neg h7, if_pos h8]; exact Or.inr (Or.inl ⟨rfl, rfl⟩)
  rw [if_neg h1, if_neg h2, if_neg h3, if_neg h4, if_neg h5, if_neg h6, if_neg h7, if_neg h8]
  refine Or.inr (Or.inr ⟨rfl, rfl, ?_⟩)
  have g1 : Rg 1 200 a2 := Rg.mk h1 h5 rfl rfl
  have g2 : Rg 1 6 a3 := Rg.mk h2 h6 rfl rfl
  have g3 : Rg 1 50 a4 := Rg.mk h3 h7 rfl rfl
  obtain ⟨m, m1, m2⟩ := rg_nI (hi := 200) (x := a2) ⟨Int.le_trans (by decide) g1.1, g1.2⟩
  obtain ⟨w, w1, w2⟩ := rg_nI (hi := 6) (x := a3) ⟨Int.le_trans (by decide) g2.1, g2.2⟩
  obtain ⟨s, s1, s2⟩ := rg_nI (hi := 50) (x := a4) ⟨Int.le_trans (by decide) g3.1, g3.2⟩
  have q1 := g1.1
  have q2 := g2.1
  have q3 := g3.1
  rw [m2, nI_toInt (by omega)] at q1
  rw [w2, nI_toInt (by omega)] at q2
  rw [s2, nI_toInt (by omega)] at q3
  refine ⟨m, w - 1, s, by omega, m1, by omega, by omega, s1, m2, ?_, s2⟩
  rw [w2]
  congr 1
  omega
/-- how many steps are gone ahead of a week -/
def wA (c : WQ) : Nat → Nat
  | 0 => 0
  | k + 1 => Bw c (c.2.1 - (k + 1)) (wA c k)
theorem wA_le {c : WQ} : ∀ {k : Nat}, k ≤ c.2.1 → wA c k ≤ c.2.2.2.1 ∧ (k < c.2.1 → wA c k ≤ wA c (k + 1) ∧ wA c (k + 1) ≤ c.2.2.2.1)
  | 0, h => by
    have := Vw_spec c (c.2.1 - (0 + 1)) (a := 0) (Nat.zero_le _)
    exact ⟨Nat.zero_le _, fun _ => ⟨this.1, this.2.1⟩⟩
  | k + 1, h => by
    have h0 := (wA_le (c := c) (k := k) (by omega)).2 (by omega)
    refine ⟨h0.2, fun _ => ?_⟩
    have := Vw_spec c (c.2.1 - (k + 1 + 1)) (a := wA c (k + 1)) h0.2
    exact ⟨this.1, this.2.1⟩
section SWeeks
variable {σ τ : St} {U P Q T R L E : Nat}
theorem p_behind_eq {c : WQ} (h : wOk c) {σ' : St} {k a b : Nat} (hk : k ≤ 5) (ha : a ≤ c.2.2.2.1) (h37 : σ'.1 0 37 (k * 201 + a) = nI b) : p_Endings_behind σ' (nI k) (nI a) = some (nI b) := by
  have hS := wS_le h
  have e : nI k * (201 : Int32) = nI (k * 201) := pk_mul k 201
  unfold p_Endings_behind
  rw [e, nI_add, if_neg (nI_pos (by omega)), if_pos (show nI (k * 201 + a) < 1206 from nI_lt (b := 1206) (by omega) (by decide)), ix_nI (show k * 201 + a < 1206 by omega) (by decide), obs, h37]
theorem p_partIn_eq {c : WQ} (h : wOk c) {σ' : St} (hW : WS σ c σ') (h37 : ∀ k a, k < c.2.1 → a ≤ c.2.2.2.1 → σ'.1 0 37 (k * 201 + a) = nI (Bw c (c.2.1 - (k + 1)) a)) {w : Nat} (hw : w ≤ c.2.1) : p_Endings_partIn σ' (nI w) = some (nI (if w = c.2.1 then (c.2.2.2.1 - wA c w) * c.2.2.1 + c.2.2.2.2.1 else (wA c (w + 1) - wA c w) * c.2.2.1)) := by
  obtain ⟨w1, w2, w3, w4, w5, w6⟩ := hW
  have hl := h.2.1
  have hS := wS_le h
  unfold p_Endings_partIn
  refine itr_bd w (fun i => (nI (wA c i), nI i)) (nI (wA c w)) (FU_lt (by omega)) rfl (fun i hi => ?_) ?_ ?_
  · have ha := (wA_le (c := c) (k := i) (by omega)).1
    simp only [if_pos (nI_lt hi (show w < 2 ^ 31 by omega)), w2, if_pos (nI_lt (show i < c.2.1 by omega) (show c.2.1 < 2 ^ 31 by omega)), nI_1]
    rw [p_behind_eq h (show i ≤ 5 by omega) ha (h37 i _ (by omega) ha)]
    rfl
  · simp only [if_neg (nI_nlt (Nat.le_refl w) (show w < 2 ^ 31 by omega))]
  · obtain ⟨ha, hb⟩ := wA_le (c := c) (k := w) hw
    rw [w2, w3, w4, w5]
    by_cases e : w = c.2.1
    · rw [if_pos (by rw [e]), if_pos e, pk_sub ha, pk_mul, nI_add]
    · obtain ⟨hb1, hb2⟩ := hb (by omega)
      rw [if_neg (fun x => e (nI_inj (by omega) (by omega) x)), if_neg e, p_behind_eq h (show w ≤ 5 by omega) ha (h37 w _ (by omega) ha), obs]
      show some ((nI (wA c (w + 1)) - nI (wA c w)) * nI c.2.2.1) = _
      rw [pk_sub hb1, pk_mul]
set_option maxHeartbeats 800000 in
theorem m_weekOf_eq {c : WQ} (h : wOk c) {τ' : St} (hM : MWk τ c τ') (h43 : ∀ k a, k ≤ c.2.1 → a ≤ c.2.2.2.1 → τ'.1 0 43 (201 * k + a) = nI (Vw c (c.2.1 - k) a)) {w : Nat} (hw : w ≤ c.2.1) : itr0 (S := Int32 × Int32 × Int32) (E := Int32) (fun s11 => (if nI w < s11.2.2 then some (.inr s11.2.1) else (if nI c.2.2.1 = 0 then none else (Option.bind (itr0 (S := Int32) (E := Int32) (fun s22 => (if s11.2.2 < nI (c.2.1 + 1) - (1 : Int32) then (if nI c.2.2.1 = 0 then none else (Option.bind (m_weekCost τ' s11.2.2 (nI (c.2.1 + 1)) (s11.1 + s11.2.1) s22 (nI c.2.2.1) (nI c.2.2.2.2.1)) fun r30 => (Option.bind (ix 1407 ((((201 : Int32) * (s11.2.2 + (1 : Int32))) + (s11.1 + s11.2.1)) + s22)) fun i32 => (Option.bind (ix 1407 (((201 : Int32) * s11.2.2) + (s11.1 + s11.2.1))) fun i33 => (if r30 + (τ'.1 0 43 i32) = τ'.1 0 43 i33 then some (.inr s22) else some (.inl (s22 + (-1 : Int32)))))))) else some (.inr s22))) FU (nI c.2.2.2.1 - (s11.1 + s11.2.1))) fun e27 => some (.inl (s11.1 + s11.2.1, e27, s11.2.2 + (1 : Int32))))))) FU ((0 : Int32), (0 : Int32), (0 : Int32)) = some (nI (if w = c.2.1 then c.2.2.2.1 - wA c w else wA c (w + 1) - wA c w)) := by
  obtain ⟨o1, o2, o3, o4, o5, o6⟩ := id h
  have hS := wS_le h
  have hk : OK (itr0 (S := Int32 × Int32 × Int32) (E := Int32) (fun s11 => (if nI w < s11.2.2 then some (.inr s11.2.1) else (if nI c.2.2.1 = 0 then none else (Option.bind (itr0 (S := Int32) (E := Int32) (fun s22 => (if s11.2.2 < nI (c.2.1 + 1) - (1 : Int32) then (if nI c.2.2.1 = 0 then none else (Option.bind (m_weekCost τ' s11.2.2 (nI (c.2.1 + 1)) (s11.1 + s11.2.1) s22 (nI c.2.2.1) (nI c.2.2.2.2.1)) fun r30 => (Option.bind (ix 1407 ((((201 : Int32) * (s11.2.2 + (1 : Int32))) + (s11.1 + s11.2.1)) + s22)) fun i32 => (Option.bind (ix 1407 (((201 : Int32) * s11.2.2) + (s11.1 + s11.2.1))) fun i33 => (if r30 + (τ'.1 0 43 i32) = τ'.1 0 43 i33 then some (.inr s22) else some (.inl (s22 + (-1 : Int32)))))))) else some (.inr s22))) FU (nI c.2.2.2.1 - (s11.1 + s11.2.1))) fun e27 => some (.inl (s11.1 + s11.2.1, e27, s11.2.2 + (1 : Int32))))))) FU ((0 : Int32), (0 : Int32), (0 : Int32))) (fun e => e = nI (if w = c.2.1 then c.2.2.2.1 - wA c w else wA c (w + 1) - wA c w)) := by
    refine OK.itr (w + 1) (fun k s => s.2.2 = nI k ∧ (k ≤ c.2.1 → s.1 + s.2.1 = nI (wA c k)) ∧ (∀ k', k = k' + 1 → s.2.1 = nI (if k' = c.2.1 then c.2.2.2.1 - wA c k' else wA c (k' + 1) - wA c k'))) ⟨rfl, fun _ => rfl, fun k' e => by omega⟩ (fun k s hk hs' => ?_) (fun s hs' => ?_) (FU_lt (by omega))
    · obtain ⟨ah, nw, k'⟩ := s
      obtain ⟨e1, e2, -⟩ := hs'
      simp only at e1 e2 ⊢
      subst e1
      have hkl : k ≤ c.2.1 := by omega
      obtain ⟨ha, hb⟩ := wA_le (c := c) (k := k) hkl
      rw [e2 hkl, if_neg (nI_nlt (by omega) (by omega)), if_neg (nI_ne0 (show 0 < c.2.2.1 by omega) (by omega)), nI_pred, pk_sub ha]
      -- from the greatest part down to the one that costs least
      have inner : ∀ G, 10000 < G → itr0 (S := Int32) (E := Int32) (fun s22 => (if nI k < nI c.2.1 then (if nI c.2.2.1 = 0 then none else (Option.bind (m_weekCost τ' (nI k) (nI (c.2.1 + 1)) (nI (wA c k)) s22 (nI c.2.2.1) (nI c.2.2.2.2.1)) fun r30 => (Option.bind (ix 1407 ((((201 : Int32) * (nI k + (1 : Int32))) + nI (wA c k)) + s22)) fun i32 => (Option.bind (ix 1407 (((201 : Int32) * nI k) + nI (wA c k))) fun i33 => (if r30 + (τ'.1 0 43 i32) = τ'.1 0 43 i33 then some (.inr s22) else some (.inl (s22 + (-1 : Int32)))))))) else some (.inr s22))) G (nI (c.2.2.2.1 - wA c k)) = some (nI (if k = c.2.1 then c.2.2.2.1 - wA c k else wA c (k + 1) - wA c k)) := by
        intro G hG
        by_cases e : k = c.2.1
        · obtain ⟨G', rfl⟩ : ∃ G', G = G' + 1 := ⟨G - 1, by omega⟩
          rw [if_pos e]
          refine itr_stop ?_
          rw [e, if_neg (nI_nlt (Nat.le_refl _) (by omega))]
        · have hkl' : k < c.2.1 := by omega
          rw [if_neg e]
          obtain ⟨j, hj⟩ : ∃ j, c.2.1 - k = j + 1 := ⟨c.2.1 - k - 1, by omega⟩
          have hj2 : c.2.1 - (k + 1) = j := by omega
          have hj3 : c.2.1 - (j + 1) = k := by omega
          have hsp := Vw_spec c j ha
          rw [hj3] at hsp
          have hB : wA c (k + 1) = Bw c j (wA c k) := by show Bw c (c.2.1 - (k + 1)) (wA c k) = _; rw [hj2]
          rw [hB]
          obtain ⟨s1, s2, s3, s4, s5⟩ := hsp
          generalize wA c k = a at *
          generalize Bw c j a = b at *
          have hV : ∀ x, x ≤ c.2.2.2.1 → Vw c j x ≤ 2400 := fun x hx => Vw_le h j x hx
          have e201 : (201 : Int32) * nI (k + 1) = nI (201 * (k + 1)) := pk_mul 201 (k + 1)
          have e201' : (201 : Int32) * nI k = nI (201 * k) := pk_mul 201 k
          have hstep : ∀ n, a + n ≤ c.2.2.2.1 → (if nI k < nI c.2.1 then (if nI c.2.2.1 = 0 then none else (Option.bind (m_weekCost τ' (nI k) (nI (c.2.1 + 1)) (nI a) (nI n) (nI c.2.2.1) (nI c.2.2.2.2.1)) fun r30 => (Option.bind (ix 1407 ((((201 : Int32) * (nI k + (1 : Int32))) + nI a) + nI n)) fun i32 => (Option.bind (ix 1407 (((201 : Int32) * nI k) + nI a)) fun i33 => (if r30 + (τ'.1 0 43 i32) = τ'.1 0 43 i33 then some (Sum.inr (nI n)) else some (Sum.inl (nI n + (-1 : Int32)))))))) else some (Sum.inr (nI n))) = if wF c k (Vw c j) a (a + n) = Vw c (j + 1) a then some (Sum.inr (nI n)) else some (Sum.inl (nI n + (-1 : Int32))) := by
            intro n hn
            have hFl := wF_le h (show k ≤ 5 by omega) hV (show a ≤ a + n by omega) hn
            have hVl := Vw_le h (j + 1) a ha
            have t1 := h43 (k + 1) (a + n) (by omega) hn
            have t2 := h43 k a hkl ha
            rw [hj2] at t1
            rw [hj] at t2
            rw [if_pos (nI_lt hkl' (by omega)), if_neg (nI_ne0 (show 0 < c.2.2.1 by omega) (by omega)), m_wcost_eq h hM hkl hn, obs, nI_1, e201, e201', nI_add, nI_add, nI_add, ix_nI (show 201 * (k + 1) + a + n < 1407 by omega) (by decide), obs, ix_nI (show 201 * k + a < 1407 by omega) (by decide), obs, show 201 * (k + 1) + a + n = 201 * (k + 1) + (a + n) by omega, t1, t2, nI_add, wcost_F hkl']
            by_cases cc : wF c k (Vw c j) a (a + n) = Vw c (j + 1) a
            · rw [if_pos (by rw [cc]), if_pos cc]
            · rw [if_neg (fun x => cc (nI_inj (by omega) (by omega) x)), if_neg cc]
          refine itr_eq (c.2.2.2.1 - b) (fun i => nI (c.2.2.2.1 - a - i)) (nI (b - a)) rfl (fun i hi => ?_) ?_ (by omega)
          · rw [hstep (c.2.2.2.1 - a - i) (by omega)]
            have hlt := s5 (a + (c.2.2.2.1 - a - i)) (by omega) (by omega)
            rw [if_neg (by omega)]
            obtain ⟨n, hn⟩ : ∃ n, c.2.2.2.1 - a - i = n + 1 := ⟨c.2.2.2.1 - a - i - 1, by omega⟩
            rw [hn, pk_m1, show c.2.2.2.1 - a - (i + 1) = n by omega]
          · rw [show c.2.2.2.1 - a - (c.2.2.2.1 - b) = b - a by omega, hstep (b - a) (by omega), show a + (b - a) = b by omega, if_pos s3]
      rw [inner FU (FU_lt (by decide)), obs, nI_1]
      refine OK.so ⟨rfl, fun hk1 => ?_, fun k' e => ?_⟩
      · show nI (wA c k) + nI (if k = c.2.1 then c.2.2.2.1 - wA c k else wA c (k + 1) - wA c k) = nI (wA c (k + 1))
        obtain ⟨hb1, hb2⟩ := hb (by omega)
        rw [if_neg (by omega), nI_add]
        congr 1
        omega
      · have : k' = k := by omega
        subst this
        rfl
    · obtain ⟨ah, nw, k'⟩ := s
      obtain ⟨e1, -, e3⟩ := hs'
      simp only at e1 e3 ⊢
      subst e1
      rw [if_pos (nI_lt (Nat.lt_succ_self _) (by omega))]
      exact OK.so (e3 w rfl)
  obtain ⟨e, y1, y2⟩ := hk
  rw [y1, y2]
end SWeeks
theorem s_weeks : S_weeks Inv := by
  intro σ τ N a1 a2 a3 a4 a5 hI
  obtain ⟨U, L, E, h⟩ := id hI
  unfold p_PE_weeks m_weeks
  rcases in_or a1 (n := 4) (by decide) with ⟨k, hk, rfl⟩ | ⟨hno, hout⟩
  · rw [isPlace_t hk, inl_t 3 (c := 3) rfl (by omega) (by decide), obs, obs, if_neg (show ¬ (1 : Int32) = 0 by decide), if_neg (show ¬ (1 : Int32) = 0 by decide)]
    rcases parting_cases a2 a3 a4 a5 with ⟨w1, w2⟩ | ⟨w1, w2⟩ | ⟨w1, w2, m, lw, st, m1, m2, m3, m4, m5, rfl, rfl, rfl⟩
    · rw [w1, w2, obs, obs, if_neg ne_m4, if_pos lt_m4, p_r4, m_r4, obs, obs]
      exact ⟨-4, rfC σ 4, rfM τ 4, rfl, rfl, inv_rf hI 4⟩
    · rw [w1, w2, obs, obs, if_neg ne_m6, if_pos lt_m6, p_r6, m_r6, obs, obs]
      exact ⟨-6, rfC σ 6, rfM τ 6, rfl, rfl, inv_rf hI 6⟩
    · obtain ⟨σ', p1, p2, p3, p4⟩ := p_part_ok h (pl := nI k) m1 m2 m3 m4 m5
      obtain ⟨τ', q1, q2, q3⟩ := m_fweeks_ok h (pl := nI k) m1 m2 m3 m4 m5
      have e1 := p3 0 (Nat.zero_le _)
      have e2 := q3 0 0 (Nat.zero_le _) (Nat.zero_le _)
      rw [w1, w2, obs, obs, if_pos rfl, if_neg (show ¬ (0 : Int32) < 0 by decide), p1, q1, obs, obs, show ix 1407 (0 : Int32) = some 0 from rfl, obs]
      unfold p_Endings_weeksPaid
      rw [show ix 201 (0 : Int32) = some 0 from rfl, obs, obs, e1]
      refine ⟨nI (Vw (cw τ (nI k) E m lw st) lw 0) * a5, σ', τ', rfl, ?_, hI.fr p2.1 q2.1⟩
      have e3 : τ'.1 0 43 0 = nI (Vw (cw τ (nI k) E m lw st) lw 0) := e2
      rw [e3]
  · rw [isPlace_f hno, inl_f 3 (c := 3) rfl (by decide) (fun k hk => hno k (by omega)), obs, obs, if_pos rfl, if_pos rfl, p_r1, m_r1, obs, obs]
    exact ⟨-1, rfC σ 1, rfM τ 1, rfl, rfl, inv_rf hI 1⟩
theorem s_weekOf : S_weekOf Inv := by
  intro σ τ N a1 a2 a3 a4 a5 a6 hI
  obtain ⟨U, L, E, h⟩ := id hI
  have he := h.2.2.2.2.2.2.2
  unfold p_PE_weekOf m_weekOf
  rcases in_or a1 (n := 4) (by decide) with ⟨k, hk, rfl⟩ | ⟨hno, hout⟩
  · rw [isPlace_t hk, inl_t 3 (c := 3) rfl (by omega) (by decide), obs, obs, if_neg (show ¬ (1 : Int32) = 0 by decide), if_neg (show ¬ (1 : Int32) = 0 by decide)]
    by_cases h6 : a6 < 0
    · rw [if_pos h6, if_pos h6, p_r1, m_r1, obs, obs]
      exact ⟨-1, rfC σ 1, rfM τ 1, rfl, rfl, inv_rf hI 1⟩
    by_cases h7 : a6 < a3
    · rw [if_neg h6, if_neg h6, if_pos h7, if_pos h7]
      rcases parting_cases a2 a3 a4 a5 with ⟨w1, w2⟩ | ⟨w1, w2⟩ | ⟨w1, w2, m, lw, st, m1, m2, m3, m4, m5, rfl, rfl, rfl⟩
      · rw [w1, w2, obs, obs, if_neg ne_m4, if_pos lt_m4, p_r4, m_r4, obs, obs]
        exact ⟨-4, rfC σ 4, rfM τ 4, rfl, rfl, inv_rf hI 4⟩
      · rw [w1, w2, obs, obs, if_neg ne_m6, if_pos lt_m6, p_r6, m_r6, obs, obs]
        exact ⟨-6, rfC σ 6, rfM τ 6, rfl, rfl, inv_rf hI 6⟩
      · obtain ⟨w, hw0, rfl⟩ := nI_of h6
        rw [nI_ltI hw0 (by omega)] at h7
        obtain ⟨σ', p1, p2, p3, p4⟩ := p_part_ok h (pl := nI k) m1 m2 m3 m4 m5
        obtain ⟨τ', q1, q2, q3⟩ := m_fweeks_ok h (pl := nI k) m1 m2 m3 m4 m5
        have hok : wOk (cw τ (nI k) E m lw st) := cw_ok (he := he) m2 m3 m4 m5
        have hmd : m / st * st + m % st = m := hok.2.2.2.2.1
        have hpi := p_partIn_eq hok p2 p4 (w := w) (show w ≤ lw by omega)
        have hmi := m_weekOf_eq hok q2 q3 (w := w) (show w ≤ lw by omega)
        have hc1 : (cw τ (nI k) E m lw st).2.1 = lw := rfl
        have hc3 : (cw τ (nI k) E m lw st).2.2.1 = st := rfl
        have hc4 : (cw τ (nI k) E m lw st).2.2.2.1 = m / st := rfl
        have hc5 : (cw τ (nI k) E m lw st).2.2.2.2.1 = m % st := rfl
        rw [hc1, hc3, hc4, hc5] at hmi hpi
        rw [w1, w2, obs, obs, if_pos rfl, if_neg (show ¬ (0 : Int32) < 0 by decide), p1, q1, obs, obs, hpi, obs, pk_div (by omega) (by omega) (by omega), pk_mul, pk_sub (show m / st * st ≤ m by omega), show m - m / st * st = m % st by omega, hmi, obs, nI_pred, if_neg (nI_ne0 (show 0 < st by omega) (by omega))]
        by_cases e : w = lw
        · rw [if_pos e, if_pos e, if_pos (show nI w = nI lw by rw [e]), obs, pk_mul, nI_add]
          exact ⟨_, σ', τ', rfl, rfl, hI.fr p2.1 q2.1⟩
        · rw [if_neg (fun x => e (nI_inj (by omega) (by omega) x)), if_neg e, if_neg e, obs, pk_mul]
          refine ⟨_, σ', τ', rfl, ?_, hI.fr p2.1 q2.1⟩
          congr 2
          grind
    · rw [if_neg h6, if_neg h6, if_neg h7, if_neg h7, p_r1, m_r1, obs, obs]
      exact ⟨-1, rfC σ 1, rfM τ 1, rfl, rfl, inv_rf hI 1⟩
  · rw [isPlace_f hno, inl_f 3 (c := 3) rfl (by decide) (fun k hk => hno k (by omega)), obs, obs, if_pos rfl, if_pos rfl, p_r1, m_r1, obs, obs]
    exact ⟨-1, rfC σ 1, rfM τ 1, rfl, rfl, inv_rf hI 1⟩
