/-! ===== weeks: the class's table ===== -/
section WeekC2
variable {σ τ : St} {U P Q T R L E : Nat}
theorem p_fillWeek_ok {c : WQ} (h : wOk c) {j : Nat} (hj : j + 1 ≤ c.2.1) {σ1 : St} (hW : WS σ c σ1) (h36 : ∀ a, a ≤ c.2.2.2.1 → σ1.1 0 36 a = nI (Vw c j a)) : OK (p_Endings_fillWeek σ1 (nI (c.2.1 - (j + 1)))) (fun σ' => WS σ c σ' ∧ (∀ a, a ≤ c.2.2.2.1 → σ'.1 0 36 a = nI (Vw c (j + 1) a)) ∧ (∀ a, a ≤ c.2.2.2.1 → σ'.1 0 37 ((c.2.1 - (j + 1)) * 201 + a) = nI (Bw c j a)) ∧ ∀ x, (∀ a, a ≤ c.2.2.2.1 → x ≠ (c.2.1 - (j + 1)) * 201 + a) → σ'.1 0 37 x = σ1.1 0 37 x) := by
  obtain ⟨o1, o2, o3, o4, o5, o6⟩ := id h
  have hS := wS_le h
  obtain ⟨w1, w2, w3, w4, w5, w6⟩ := hW
  have hk : c.2.1 - (j + 1) ≤ c.2.1 := by omega
  generalize hkk : c.2.1 - (j + 1) = k at *
  have hV : ∀ b, b ≤ c.2.2.2.1 → Vw c j b ≤ 2400 := fun b hb => Vw_le h j b hb
  unfold p_Endings_fillWeek
  rw [fill_eq _ 40 3 (-1) (by decide), obs]
  have hW0 : WS σ c (fl σ1 40 3 (-1)) := ⟨w1.fl (fun _ _ => rfl), w2, w3, w4, w5, w6⟩
  have e11 : (fl σ1 40 3 (-1)).1 0 7 11 = nI c.2.2.2.1 := w4
  rw [e11]
  refine OK.bi (OK.mono (R := fun σ' => WS σ c σ' ∧ (∀ a, a ≤ c.2.2.2.1 → σ'.1 0 36 a = nI (Vw c (j + 1) a)) ∧ (∀ a, a ≤ c.2.2.2.1 → σ'.1 0 37 (k * 201 + a) = nI (Bw c j a)) ∧ ∀ x, (∀ a, a ≤ c.2.2.2.1 → x ≠ k * 201 + a) → σ'.1 0 37 x = σ1.1 0 37 x) ?_ (fun s hs' => OK.so hs'))
  refine OK.itr (c.2.2.2.1 + 1) (fun i s => s.1 = nI (c.2.2.2.1 + 1 - i) - 1 ∧ WS σ c s.2 ∧ LB c k (Vw c j) (c.2.2.2.1 + 1 - i) s.2 ∧ (∀ a, a ≤ c.2.2.2.1 → s.2.1 0 36 a = nI (if c.2.2.2.1 + 1 - i ≤ a then Vw c (j + 1) a else Vw c j a)) ∧ (∀ a, a ≤ c.2.2.2.1 → c.2.2.2.1 + 1 - i ≤ a → s.2.1 0 37 (k * 201 + a) = nI (Bw c j a)) ∧ ∀ x, (∀ a, a ≤ c.2.2.2.1 → x ≠ k * 201 + a) → s.2.1 0 37 x = σ1.1 0 37 x) ⟨?_, hW0, fun β hβ => Or.inl ⟨?_, fun b hb1 hb2 => by omega⟩, fun a ha => ?_, fun a ha1 ha2 => by omega, fun x hx => rfl⟩ (fun i s hi hs' => ?_) (fun s hs' => ?_) (FU_lt (by omega))
  · show nI c.2.2.2.1 = nI (c.2.2.2.1 + 1 - 0) - 1
    rw [Nat.sub_zero, nI_pred]
  · show (fl σ1 40 3 (-1)).1 0 40 β = -1
    rw [fl_1, if_pos ⟨rfl, rfl, hβ⟩]
  · rw [if_neg (by omega)]
    exact h36 a ha
  · obtain ⟨g', σ2⟩ := s
    obtain ⟨e1, hW2, hL2, h362, h372, ho2⟩ := hs'
    simp only at e1 hW2 hL2 h362 h372 ho2 ⊢
    obtain ⟨a, ha⟩ : ∃ a, c.2.2.2.1 + 1 - i = a + 1 := ⟨c.2.2.2.1 + 1 - i - 1, by omega⟩
    have ha' : c.2.2.2.1 + 1 - (i + 1) = a := by omega
    have haS : a ≤ c.2.2.2.1 := by omega
    rw [ha, nI_pred] at e1
    rw [ha] at hL2 h362 h372
    subst e1
    rw [ha']
    have h36a : σ2.1 0 36 a = nI (Vw c j a) := by rw [h362 a haS, if_neg (by omega)]
    obtain ⟨σ3, k1, k2, k3, k4, k5⟩ := p_keep_ok h hk hV haS hW2 h36a hL2
    obtain ⟨σ4, l1, v, b, l2, l3⟩ := p_take_ok h hk hV haS k2 k3
    have hsp := Vw_spec c j haS
    rw [hkk] at hsp
    obtain ⟨u1, u2⟩ := l2.uniq hsp
    subst u1
    subst u2
    rw [if_neg (nI_pos (by omega)), k1, obs, l1, obs]
    have em : nI a + (-1) = nI a - 1 := by grind
    rw [em, l3]
    obtain ⟨q1, q2, q3, q4, q5, q6⟩ := k2
    refine OK.so ⟨rfl, ⟨(q1.sx rfl).sx rfl, q2, q3, q4, q5, q6⟩, k3, fun x hx => ?_, fun x hx1 hx2 => ?_, fun x hx => ?_⟩
    · show (sx σ3 0 36 a (nI (Vw c (j + 1) a))).1 0 36 x = _
      rw [sx_1]
      by_cases e : x = a
      · subst e
        rw [if_pos ⟨rfl, rfl, rfl⟩, if_pos (Nat.le_refl _)]
      · rw [if_neg (fun y => e y.2.2), k4 x, h362 x hx]
        by_cases e2 : a + 1 ≤ x
        · rw [if_pos e2, if_pos (by omega)]
        · rw [if_neg e2, if_neg (by omega)]
    · show (sx (sx σ3 0 36 a (nI (Vw c (j + 1) a))) 0 37 (k * 201 + a) (nI (Bw c j a))).1 0 37 (k * 201 + x) = _
      rw [sx_1]
      by_cases e : x = a
      · subst e
        rw [if_pos ⟨rfl, rfl, rfl⟩]
      · rw [if_neg (fun y => by have := y.2.2; omega)]
        show σ3.1 0 37 (k * 201 + x) = _
        rw [k5]
        exact h372 x hx1 (by omega)
    · show (sx (sx σ3 0 36 a (nI (Vw c (j + 1) a))) 0 37 (k * 201 + a) (nI (Bw c j a))).1 0 37 x = _
      rw [sx_1, if_neg (fun y => hx a haS y.2.2)]
      show σ3.1 0 37 x = _
      rw [k5]
      exact ho2 x hx
  · obtain ⟨g', σ2⟩ := s
    obtain ⟨e1, hW2, hL2, h362, h372, ho2⟩ := hs'
    simp only at e1 hW2 hL2 h362 h372 ho2 ⊢
    rw [Nat.sub_self] at e1 h362 h372
    rw [e1, if_pos (show nI 0 - 1 < 0 by decide)]
    refine OK.so ⟨hW2, fun a ha => ?_, fun a ha => h372 a ha (Nat.zero_le _), ho2⟩
    rw [h362 a ha, if_pos (Nat.zero_le _)]
theorem p_fillLast_ok {c : WQ} (h : wOk c) {σ1 : St} (hW : WS σ c σ1) : OK (p_Endings_fillLastWeek σ1 (nI c.1)) (fun σ' => WS σ c σ' ∧ ∀ a, a ≤ c.2.2.2.1 → σ'.1 0 36 a = nI (Vw c 0 a)) := by
  obtain ⟨o1, o2, o3, o4, o5, o6⟩ := id h
  have hS := wS_le h
  obtain ⟨w1, w2, w3, w4, w5, w6⟩ := hW
  have ht := o6 c.2.1
  unfold p_Endings_fillLastWeek
  rw [w2, ix_nI (show c.2.1 < 6 by omega) (by decide), obs, w6 c.2.1 (Nat.le_refl _), nI_add, p_band_nI (by omega), obs, p_each_nI (bnd_le _), obs, nb_bnd]
  refine OK.bi (OK.mono (R := fun σ' => WS σ c σ' ∧ ∀ a, a ≤ c.2.2.2.1 → σ'.1 0 36 a = nI (Vw c 0 a)) ?_ (fun s hs' => OK.so hs'))
  refine OK.itr (c.2.2.2.1 + 1) (fun i s => s.1 = nI i ∧ WS σ c s.2 ∧ ∀ a, a < i → s.2.1 0 36 a = nI (Vw c 0 a)) ⟨rfl, ⟨w1, w2, w3, w4, w5, w6⟩, fun a ha => by omega⟩ (fun i s hi hs' => ?_) (fun s hs' => ?_) (FU_lt (by omega))
  · obtain ⟨i', σ2⟩ := s
    obtain ⟨e1, hW2, hr⟩ := hs'
    simp only at e1 hW2 hr ⊢
    subst e1
    obtain ⟨q1, q2, q3, q4, q5, q6⟩ := hW2
    rw [q4, if_neg (nI_nlt (by omega) (by omega)), ix_nI (show i < 201 by omega) (by decide), obs, lt1_eq, q3, q5, pk_sub (by omega), pk_mul, nI_add, pk_mul, nI_1]
    refine OK.so ⟨rfl, ⟨q1.sx rfl, q2, q3, q4, q5, q6⟩, fun a ha => ?_⟩
    show (sx σ2 0 36 i _).1 0 36 a = _
    rw [sx_1]
    by_cases e : a = i
    · subst e
      rw [if_pos ⟨rfl, rfl, rfl⟩]
      rfl
    · rw [if_neg (fun y => e y.2.2)]
      exact hr a (by omega)
  · obtain ⟨i', σ2⟩ := s
    obtain ⟨e1, hW2, hr⟩ := hs'
    simp only at e1 hW2 hr ⊢
    subst e1
    rw [hW2.2.2.2.1, if_pos (nI_lt (Nat.lt_succ_self _) (by omega))]
    exact OK.so ⟨hW2, fun a ha => hr a (by omega)⟩
/-- the parting of a call -/
def cw (τ : St) (pl : Int32) (E m lw st : Nat) : WQ := (m, lw, st, m / st, m % st, fun k => wN τ pl (τ.1 0 0 0 + 7 * nI k) E)
theorem cw_ok {he : IEn σ τ E} {pl : Int32} {m lw st : Nat} (hm : m ≤ 200) (hl : lw ≤ 5) (h1 : 1 ≤ st) (h2 : st ≤ 50) : wOk (cw τ pl E m lw st) := by
  refine ⟨hm, hl, h1, h2, ?_, fun k => ?_⟩
  · show m / st * st + m % st = m
    rw [Nat.mul_comm]
    exact Nat.div_add_mod m st
  · have := (wsum_nI he pl (τ.1 0 0 0 + 7 * nI k) E (Nat.le_refl _)).2
    have := he.1
    show wN τ pl (τ.1 0 0 0 + 7 * nI k) E ≤ 30000
    omega
theorem day7 (hs : ISc σ τ) {k : Nat} (hk : k ≤ 5) : Rg 0 4000 (τ.1 0 0 0 + 7 * nI k) := by
  obtain ⟨d, d1, d2⟩ := rg_nI (hi := 3000) hs.2.1
  have e : (7 : Int32) * nI k = nI (7 * k) := pk_mul 7 k
  rw [d2, e, nI_add]
  exact ⟨by rw [nI_toInt (by omega)]; omega, by rw [nI_toInt (by omega)]; omega⟩
theorem p_part_ok (h : InvB σ τ U P Q T R L E) {pl : Int32} {m lw st : Nat} (hm1 : 1 ≤ m) (hm : m ≤ 200) (hl : lw ≤ 5) (h1 : 1 ≤ st) (h2 : st ≤ 50) : OK (p_Endings_part σ pl (σ.1 0 1 0) (nI m) (nI (lw + 1)) (nI st)) (fun σ' => WS σ (cw τ pl E m lw st) σ' ∧ (∀ a, a ≤ m / st → σ'.1 0 36 a = nI (Vw (cw τ pl E m lw st) lw a)) ∧ ∀ k a, k < lw → a ≤ m / st → σ'.1 0 37 (k * 201 + a) = nI (Bw (cw τ pl E m lw st) (lw - (k + 1)) a)) := by
  have he := h.2.2.2.2.2.2.2
  have hok : wOk (cw τ pl E m lw st) := cw_ok (he := he) hm hl h1 h2
  have hS := wS_le hok
  have hc1 : (cw τ pl E m lw st).1 = m := rfl
  have hc2 : (cw τ pl E m lw st).2.1 = lw := rfl
  have hc3 : (cw τ pl E m lw st).2.2.1 = st := rfl
  have hc4 : (cw τ pl E m lw st).2.2.2.1 = m / st := rfl
  have hc5 : (cw τ pl E m lw st).2.2.2.2.1 = m % st := rfl
  have hc6 : ∀ k, (cw τ pl E m lw st).2.2.2.2.2 k = wN τ pl (τ.1 0 0 0 + 7 * nI k) E := fun k => rfl
  unfold p_Endings_part
  have q1 : ((if (1 : Int32) < if (6 : Int32) < nI (lw + 1) then (6 : Int32) else nI (lw + 1) then if (6 : Int32) < nI (lw + 1) then (6 : Int32) else nI (lw + 1) else (1 : Int32)) - (1 : Int32)) = nI lw := by
    have : ∀ l : Fin 6, ((if (1 : Int32) < if (6 : Int32) < nI (l.1 + 1) then (6 : Int32) else nI (l.1 + 1) then if (6 : Int32) < nI (l.1 + 1) then (6 : Int32) else nI (l.1 + 1) else (1 : Int32)) - (1 : Int32)) = nI l.1 := by decide
    exact this ⟨lw, by omega⟩
  have q2 : (if (1 : Int32) < nI st then nI st else (1 : Int32)) = nI st := by
    by_cases e : st = 1
    · subst e; rfl
    · rw [if_pos (show (1 : Int32) < nI st from nI_lt (a := 1) (by omega) (by omega))]
  have q3 : (if (0 : Int32) < if (200 : Int32) < nI m then (200 : Int32) else nI m then if (200 : Int32) < nI m then (200 : Int32) else nI m else (0 : Int32)) = nI m := by
    rw [if_neg (show ¬ (200 : Int32) < nI m from nI_nlt (a := 200) hm (by decide)), if_pos (show (0 : Int32) < nI m from nI_lt (a := 0) (by omega) (by omega))]
  rw [q1, q2, q3, lt1_eq, lt1_eq]
  have r10 : ∀ s : St, (sx s 0 7 10 (nI st)).1 0 7 10 = nI st := fun s => by simp [sx_1]
  rw [r10, if_neg (nI_ne0 (by omega) (by omega)), pk_div (by omega) (by omega) (by omega), lt1_eq]
  have r11 : (sx (sx (sx σ 0 7 9 (nI lw)) 0 7 10 (nI st)) 0 7 11 (nI (m / st))).1 0 7 11 = nI (m / st) := by simp [sx_1]
  have r10' : (sx (sx (sx σ 0 7 9 (nI lw)) 0 7 10 (nI st)) 0 7 11 (nI (m / st))).1 0 7 10 = nI st := by simp [sx_1]
  have hmd : m / st * st + m % st = m := hok.2.2.2.2.1
  rw [r11, r10', pk_mul, pk_sub (by omega), show m - m / st * st = m % st by omega, lt1_eq]
  generalize hσ4 : sx (sx (sx (sx σ 0 7 9 (nI lw)) 0 7 10 (nI st)) 0 7 11 (nI (m / st))) 0 7 12 (nI (m % st)) = σ4
  have f4 : FrC σ σ4 := by rw [← hσ4]; exact ((((Fr.refl σ).sx rfl).sx rfl).sx rfl).sx rfl
  have s9 : σ4.1 0 7 9 = nI lw := by rw [← hσ4]; simp [sx_1]
  have s10 : σ4.1 0 7 10 = nI st := by rw [← hσ4]; simp [sx_1]
  have s11 : σ4.1 0 7 11 = nI (m / st) := by rw [← hσ4]; simp [sx_1]
  have s12 : σ4.1 0 7 12 = nI (m % st) := by rw [← hσ4]; simp [sx_1]
  refine OK.bi (OK.mono (R := WS σ (cw τ pl E m lw st)) ?_ ?_)
  · refine OK.itr (lw + 1) (fun i s => s.1 = nI i ∧ FrC σ s.2 ∧ s.2.1 0 7 9 = nI lw ∧ s.2.1 0 7 10 = nI st ∧ s.2.1 0 7 11 = nI (m / st) ∧ s.2.1 0 7 12 = nI (m % st) ∧ ∀ k, k < i → s.2.1 0 38 k = nI (wN τ pl (τ.1 0 0 0 + 7 * nI k) E)) ⟨rfl, f4, s9, s10, s11, s12, fun k hk => by omega⟩ (fun i s hi hs' => ?_) (fun s hs' => ?_) (FU_lt (by omega))
    · obtain ⟨i', σ5⟩ := s
      obtain ⟨e1, f5, v9, v10, v11, v12, hr⟩ := hs'
      simp only at e1 f5 v9 v10 v11 v12 hr ⊢
      subst e1
      have h5 := h.frC f5
      rw [v9, if_neg (nI_nlt (by omega) (by omega)), h.1.1, p_within_eq h5.2.2.2.2.2.2.2 pl (day7 h.1 (show i ≤ 5 by omega)), obs, ix_nI (show i < 6 by omega) (by decide), obs, lt1_eq, nI_1, (wsum_nI he pl _ E (Nat.le_refl _)).1]
      refine OK.so ⟨rfl, f5.sx rfl, v9, v10, v11, v12, fun k hk => ?_⟩
      show (sx σ5 0 38 i _).1 0 38 k = _
      rw [sx_1]
      by_cases e : k = i
      · subst e; rw [if_pos ⟨rfl, rfl, rfl⟩]
      · rw [if_neg (fun y => e y.2.2)]
        exact hr k (by omega)
    · obtain ⟨i', σ5⟩ := s
      obtain ⟨e1, f5, v9, v10, v11, v12, hr⟩ := hs'
      simp only at e1 f5 v9 v10 v11 v12 hr ⊢
      subst e1
      rw [v9, if_pos (nI_lt (Nat.lt_succ_self _) (by omega))]
      exact OK.so ⟨f5, v9, v10, v11, v12, fun k hk => hr k (by have : k ≤ lw := hk; omega)⟩
  · intro σ5 hW5
    obtain ⟨σ6, l1, l2, l3⟩ := p_fillLast_ok hok hW5
    rw [hc1] at l1
    rw [l1, obs, l2.2.1, hc2]
    refine OK.bi (OK.mono (R := fun σ' => WS σ (cw τ pl E m lw st) σ' ∧ (∀ a, a ≤ m / st → σ'.1 0 36 a = nI (Vw (cw τ pl E m lw st) lw a)) ∧ ∀ k a, k < lw → a ≤ m / st → σ'.1 0 37 (k * 201 + a) = nI (Bw (cw τ pl E m lw st) (lw - (k + 1)) a)) ?_ (fun s hs' => OK.so hs'))
    refine OK.itr lw (fun j s => s.1 = nI (lw - j) - 1 ∧ WS σ (cw τ pl E m lw st) s.2 ∧ (∀ a, a ≤ m / st → s.2.1 0 36 a = nI (Vw (cw τ pl E m lw st) j a)) ∧ ∀ k a, lw - j ≤ k → k < lw → a ≤ m / st → s.2.1 0 37 (k * 201 + a) = nI (Bw (cw τ pl E m lw st) (lw - (k + 1)) a)) ⟨rfl, l2, l3, fun k a hk1 hk2 => by omega⟩ (fun j s hj hs' => ?_) (fun s hs' => ?_) (FU_lt (by omega))
    · obtain ⟨w', σ7⟩ := s
      obtain ⟨e1, hW7, h367, h377⟩ := hs'
      simp only at e1 hW7 h367 h377 ⊢
      obtain ⟨k, hk⟩ : ∃ k, lw - j = k + 1 := ⟨lw - j - 1, by omega⟩
      have hk' : lw - (j + 1) = k := by omega
      rw [hk, nI_pred] at e1
      subst e1
      obtain ⟨σ8, z1, z2, z3, z4, z5⟩ := p_fillWeek_ok hok (j := j) (show j + 1 ≤ lw by omega) hW7 h367
      rw [hc2, hk'] at z1 z4 z5
      have em : nI k + (-1) = nI k - 1 := by grind
      rw [if_neg (nI_pos (by omega)), z1, obs, em, hk']
      refine OK.so ⟨rfl, z2, z3, fun k' a hk1 hk2 ha => ?_⟩
      by_cases e : k' = k
      · subst e
        have := z4 a ha
        rw [show lw - (k' + 1) = j by omega]
        exact this
      · have hS' : m / st ≤ 200 := hS
        have := z5 (k' * 201 + a) (fun x hx => by have hx' : x ≤ m / st := hx
                                                  omega)
        show σ8.1 0 37 (k' * 201 + a) = _
        rw [this]
        exact h377 k' a (by omega) hk2 ha
    · obtain ⟨w', σ7⟩ := s
      obtain ⟨e1, hW7, h367, h377⟩ := hs'
      simp only at e1 hW7 h367 h377 ⊢
      rw [Nat.sub_self] at e1 h377
      rw [e1, if_pos (show nI 0 - 1 < 0 by decide)]
      exact OK.so ⟨hW7, h367, fun k a hk ha => h377 k a (Nat.zero_le _) hk ha⟩
end WeekC2
