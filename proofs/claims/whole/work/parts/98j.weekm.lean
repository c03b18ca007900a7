/-! ===== weeks: the reference ===== -/
def MWk (τ : St) (c : WQ) (τ' : St) : Prop := FrM τ τ' ∧ ∀ k, k ≤ c.2.1 → τ'.1 0 44 k = nI (c.2.2.2.2.2 k)
section WeekM
variable {σ τ : St} {U P Q T R L E : Nat}
theorem m_wcost_eq {c : WQ} (h : wOk c) {τ' : St} (hM : MWk τ c τ') {k a n : Nat} (hk : k ≤ c.2.1) (han : a + n ≤ c.2.2.2.1) : m_weekCost τ' (nI k) (nI (c.2.1 + 1)) (nI a) (nI n) (nI c.2.2.1) (nI c.2.2.2.2.1) = some (nI ((n * c.2.2.1 + (if k = c.2.1 then c.2.2.2.2.1 else 0)) * (nb (c.2.2.2.2.2 k + a * c.2.2.1 + (n * c.2.2.1 + (if k = c.2.1 then c.2.2.2.2.1 else 0))) + k))) := by
  obtain ⟨o1, o2, o3, o4, o5, o6⟩ := id h
  have hS := wS_le h
  have ht := o6 k
  have h1 := wst_le h (show a ≤ c.2.2.2.1 by omega)
  have h2 := wst_le h (show n ≤ c.2.2.2.1 by omega)
  unfold m_weekCost
  have e1 : (if nI k = nI (c.2.1 + 1) - 1 then some (nI c.2.2.2.2.1) else some (0 : Int32)) = some (nI (if k = c.2.1 then c.2.2.2.2.1 else 0)) := by
    rw [nI_pred]
    by_cases e : k = c.2.1
    · rw [if_pos (by rw [e]), if_pos e]
    · rw [if_neg (fun x => e (nI_inj (by omega) (by omega) x)), if_neg e]; rfl
  rw [e1, obs, ix_nI (show k < 6 by omega) (by decide), obs, hM.2 k hk, pk_mul, pk_mul, nI_add, nI_add, nI_add]
  have hr : (if k = c.2.1 then c.2.2.2.2.1 else 0) ≤ 200 := by split <;> omega
  obtain ⟨v, v1, v2⟩ := m_notice_nI (n := c.2.2.2.2.2 k + a * c.2.2.1 + (n * c.2.2.1 + (if k = c.2.1 then c.2.2.2.2.1 else 0))) (by omega)
  rw [v1, obs, v2, nI_add, pk_mul]
/-- ahead of the last week it is the week's cost -/
theorem wcost_F {c : WQ} {k : Nat} (hk : k < c.2.1) (V : Nat → Nat) (a n : Nat) : (n * c.2.2.1 + (if k = c.2.1 then c.2.2.2.2.1 else 0)) * (nb (c.2.2.2.2.2 k + a * c.2.2.1 + (n * c.2.2.1 + (if k = c.2.1 then c.2.2.2.2.1 else 0))) + k) + V (a + n) = wF c k V a (a + n) := by
  unfold wF
  rw [if_neg (by omega), Nat.add_zero, show a + n - a = n by omega, Nat.add_assoc, Nat.add_mul a n]
theorem wF_le {c : WQ} (h : wOk c) {k : Nat} (hk : k ≤ 5) {V : Nat → Nat} (hV : ∀ b, b ≤ c.2.2.2.1 → V b ≤ 2400) {a b : Nat} (hab : a ≤ b) (hb : b ≤ c.2.2.2.1) : wF c k V a b ≤ 4800 := by
  have h1 := wF_W c k V hab
  have h2 := wW_le h hk hV hb
  omega
set_option maxHeartbeats 1000000 in
theorem m_fweeks_ok (h : InvB σ τ U P Q T R L E) {pl : Int32} {m lw st : Nat} (hm1 : 1 ≤ m) (hm : m ≤ 200) (hl : lw ≤ 5) (h1 : 1 ≤ st) (h2 : st ≤ 50) : OK (m_findWeeks τ pl (nI m) (nI (lw + 1)) (nI st)) (fun τ' => MWk τ (cw τ pl E m lw st) τ' ∧ ∀ k a, k ≤ lw → a ≤ m / st → τ'.1 0 43 (201 * k + a) = nI (Vw (cw τ pl E m lw st) (lw - k) a)) := by
  have he := h.2.2.2.2.2.2.2
  have hok : wOk (cw τ pl E m lw st) := cw_ok (he := he) hm hl h1 h2
  have hS : m / st ≤ 200 := wS_le hok
  have hmd : m / st * st + m % st = m := hok.2.2.2.2.1
  unfold m_findWeeks
  rw [if_neg (nI_ne0 (show 0 < st by omega) (by omega)), pk_div (by omega) (by omega) (by omega), pk_mul, pk_sub (by omega), show m - m / st * st = m % st by omega, nI_pred]
  refine OK.bi (OK.mono (R := MWk τ (cw τ pl E m lw st)) ?_ ?_)
  · refine OK.itr (lw + 1) (fun i s => s.1 = nI i ∧ FrM τ s.2 ∧ ∀ k, k < i → s.2.1 0 44 k = nI (wN τ pl (τ.1 0 0 0 + 7 * nI k) E)) ⟨rfl, Fr.refl _, fun k hk => by omega⟩ (fun i s hi hs' => ?_) (fun s hs' => ?_) (FU_lt (by omega))
    · obtain ⟨i', τ2⟩ := s
      obtain ⟨e1, hf, hr⟩ := hs'
      simp only at e1 hf hr ⊢
      subst e1
      have e2 : wsum τ2 pl (τ.1 0 0 0 + 7 * nI i) E = wsum τ pl (τ.1 0 0 0 + 7 * nI i) E := by
        have : ∀ n, wsum τ2 pl (τ.1 0 0 0 + 7 * nI i) n = wsum τ pl (τ.1 0 0 0 + 7 * nI i) n := by
          intro n
          induction n with
          | zero => rfl
          | succ n ih => unfold wsum; rw [ih, (hf 0 40 n rfl).1, (hf 0 41 n rfl).1, (hf 0 42 n rfl).1]
        exact this E
      rw [if_pos (nI_lt hi (by omega)), (hf 0 0 0 rfl).1, m_endedBy_eq (h.frM hf).2.2.2.2.2.2.2, obs, e2, ix_nI (show i < 6 by omega) (by decide), obs, lt1_eq, nI_1, (wsum_nI he pl _ E (Nat.le_refl _)).1]
      refine OK.so ⟨rfl, hf.sx rfl, fun k hk => ?_⟩
      show (sx τ2 0 44 i _).1 0 44 k = _
      rw [sx_1]
      by_cases e : k = i
      · subst e; rw [if_pos ⟨rfl, rfl, rfl⟩]
      · rw [if_neg (fun y => e y.2.2)]
        exact hr k (by omega)
    · obtain ⟨i', τ2⟩ := s
      obtain ⟨e1, hf, hr⟩ := hs'
      simp only at e1 hf hr ⊢
      subst e1
      rw [if_neg (nI_nlt (Nat.le_refl _) (by omega))]
      exact OK.so ⟨hf, fun k hk => hr k (by have : k ≤ lw := hk; omega)⟩
  · intro τ2 hM2
    refine OK.bi (OK.mono (R := fun τ' => MWk τ (cw τ pl E m lw st) τ' ∧ ∀ k a, k ≤ lw → a ≤ m / st → τ'.1 0 43 (201 * k + a) = nI (Vw (cw τ pl E m lw st) (lw - k) a)) ?_ (fun s hs' => OK.so hs'))
    refine OK.itr (lw + 1) (fun i s => s.1 = nI (lw + 1 - i) - 1 ∧ MWk τ (cw τ pl E m lw st) s.2 ∧ ∀ k a, lw + 1 - i ≤ k → k ≤ lw → a ≤ m / st → s.2.1 0 43 (201 * k + a) = nI (Vw (cw τ pl E m lw st) (lw - k) a)) ⟨?_, hM2, fun k a hk1 hk2 => by omega⟩ (fun i s hi hs' => ?_) (fun s hs' => ?_) (FU_lt (by omega))
    · show nI lw = nI (lw + 1 - 0) - 1
      rw [Nat.sub_zero, nI_pred]
    · obtain ⟨k', τ3⟩ := s
      obtain ⟨e1, hM3, ht3⟩ := hs'
      simp only at e1 hM3 ht3 ⊢
      obtain ⟨k, hk⟩ : ∃ k, lw + 1 - i = k + 1 := ⟨lw + 1 - i - 1, by omega⟩
      have hk' : lw + 1 - (i + 1) = k := by omega
      have hkl : k ≤ lw := by omega
      rw [hk, nI_pred] at e1
      rw [hk] at ht3
      subst e1
      rw [if_neg (nI_pos (by omega)), hk']
      refine OK.bi (OK.mono (R := fun τ' => MWk τ (cw τ pl E m lw st) τ' ∧ ∀ k' a, k ≤ k' → k' ≤ lw → a ≤ m / st → τ'.1 0 43 (201 * k' + a) = nI (Vw (cw τ pl E m lw st) (lw - k') a)) ?_ (fun s hs' => ?_))
      · refine OK.itr (m / st + 1) (fun a s => s.1 = nI a ∧ MWk τ (cw τ pl E m lw st) s.2 ∧ (∀ k' x, k + 1 ≤ k' → k' ≤ lw → x ≤ m / st → s.2.1 0 43 (201 * k' + x) = nI (Vw (cw τ pl E m lw st) (lw - k') x)) ∧ ∀ x, x < a → s.2.1 0 43 (201 * k + x) = nI (Vw (cw τ pl E m lw st) (lw - k) x)) ⟨rfl, hM3, ht3, fun x hx => by omega⟩ (fun a s ha hs' => ?_) (fun s hs' => ?_) (FU_lt (by omega))
        · obtain ⟨a', τ4⟩ := s
          obtain ⟨e1, hM4, hup, hlo⟩ := hs'
          simp only at e1 hM4 hup hlo ⊢
          subst e1
          have haS : a ≤ m / st := by omega
          rw [if_neg (nI_nlt haS (by omega)), pk_sub haS]
          -- the least over the parts in this week
          have inner : ∃ t25 v, (if nI k = nI lw then some (nI (m / st - a)) else some (0 : Int32)) = some t25 ∧ v = Vw (cw τ pl E m lw st) (lw - k) a ∧ itr0 (S := Int32 × Int32) (E := Int32) (fun s28 => (if nI (m / st - a) < s28.2 then some (.inr s28.1) else (if nI st = 0 then none else (Option.bind (m_weekCost τ4 (nI k) (nI (lw + 1)) (nI a) s28.2 (nI st) (nI (m % st))) fun r38 => (Option.bind (α := Int32) ((if nI k = nI lw then some (0 : Int32) else (Option.bind (ix 1407 ((((201 : Int32) * (nI k + (1 : Int32))) + nI a) + s28.2)) fun i46 => some (τ4.1 0 43 i46)))) fun t40 => (Option.bind (α := Int32) ((if s28.1 < 0 then some (r38 + t40) else (if r38 + t40 < s28.1 then some (r38 + t40) else some s28.1))) fun t43 => some (.inl (t43, s28.2 + (1 : Int32))))))))) FU ((-1 : Int32), t25) = some (nI v) := by
            by_cases ek : k = lw
            · subst ek
              refine ⟨nI (m / st - a), Vw (cw τ pl E m k st) 0 a, by rw [if_pos rfl], by rw [Nat.sub_self], ?_⟩
              have hwc := m_wcost_eq hok hM4 (k := k) (a := a) (n := m / st - a) (Nat.le_refl _) (show a + (m / st - a) ≤ m / st by omega)
              have hwc' : m_weekCost τ4 (nI k) (nI (k + 1)) (nI a) (nI (m / st - a)) (nI st) (nI (m % st)) = some (nI (Vw (cw τ pl E m k st) 0 a)) := by
                have e0 : (cw τ pl E m k st).2.1 = k := rfl
                rw [e0, if_pos rfl] at hwc
                have e1 : wN τ pl (τ.1 0 0 0 + 7 * nI k) E + a * st + ((m / st - a) * st + m % st) = wN τ pl (τ.1 0 0 0 + 7 * nI k) E + m := by
                  have e2 : (m / st - a) * st = m / st * st - a * st := Nat.sub_mul _ _ _
                  have e3 : a * st ≤ m / st * st := Nat.mul_le_mul_right _ haS
                  omega
                have e4 : (cw τ pl E m k st).2.2.2.2.2 k + a * (cw τ pl E m k st).2.2.1 + ((m / st - a) * (cw τ pl E m k st).2.2.1 + (cw τ pl E m k st).2.2.2.2.1) = wN τ pl (τ.1 0 0 0 + 7 * nI k) E + m := e1
                rw [e4] at hwc
                exact hwc
              rw [show FU = 999998 + 1 + 1 from rfl]
              refine (itr_go (s' := (nI (Vw (cw τ pl E m k st) 0 a), nI (m / st - a + 1))) ?_).trans (itr_stop ?_)
              · show (if nI (m / st - a) < nI (m / st - a) then _ else _) = _
                rw [if_neg (nI_nlt (Nat.le_refl _) (by omega)), if_neg (nI_ne0 (show 0 < st by omega) (by omega))]
                show ((m_weekCost τ4 (nI k) (nI (k + 1)) (nI a) (nI (m / st - a)) (nI st) (nI (m % st))).bind _) = _
                rw [hwc', obs, if_pos rfl, obs]
                show some (Sum.inl (nI (Vw (cw τ pl E m k st) 0 a) + 0, nI (m / st - a) + 1)) = some (Sum.inl (nI (Vw (cw τ pl E m k st) 0 a), nI (m / st - a + 1)))
                rw [nI_1]
                congr 3
                grind
              · show (if nI (m / st - a) < nI (m / st - a + 1) then some (Sum.inr (nI (Vw (cw τ pl E m k st) 0 a))) else _) = _
                rw [if_pos (nI_lt (Nat.lt_succ_self _) (by omega))]
            · have hkl' : k < lw := by omega
              have ek' : ¬ nI k = nI lw := fun x => ek (nI_inj (by omega) (by omega) x)
              obtain ⟨j, hj⟩ : ∃ j, lw - k = j + 1 := ⟨lw - k - 1, by omega⟩
              have hj2 : lw - (k + 1) = j := by omega
              have hj3 : lw - (j + 1) = k := by omega
              have hV : ∀ b, b ≤ m / st → Vw (cw τ pl E m lw st) j b ≤ 2400 := fun b hb => Vw_le hok j b hb
              have hsp := Vw_spec (cw τ pl E m lw st) j (a := a) haS
              have hsp' : IsMin (wF (cw τ pl E m lw st) k (Vw (cw τ pl E m lw st) j) a) a (m / st) (Vw (cw τ pl E m lw st) (j + 1) a) (Bw (cw τ pl E m lw st) j a) := by
                have e0 : (cw τ pl E m lw st).2.1 - (j + 1) = k := hj3
                rw [e0] at hsp
                exact hsp
              refine ⟨0, Vw (cw τ pl E m lw st) (j + 1) a, by rw [if_neg ek'], by rw [hj], ?_⟩
              have hk2 : OK (itr0 (S := Int32 × Int32) (E := Int32) (fun s28 => (if nI (m / st - a) < s28.2 then some (.inr s28.1) else (if nI st = 0 then none else (Option.bind (m_weekCost τ4 (nI k) (nI (lw + 1)) (nI a) s28.2 (nI st) (nI (m % st))) fun r38 => (Option.bind (α := Int32) ((if nI k = nI lw then some (0 : Int32) else (Option.bind (ix 1407 ((((201 : Int32) * (nI k + (1 : Int32))) + nI a) + s28.2)) fun i46 => some (τ4.1 0 43 i46)))) fun t40 => (Option.bind (α := Int32) ((if s28.1 < 0 then some (r38 + t40) else (if r38 + t40 < s28.1 then some (r38 + t40) else some s28.1))) fun t43 => some (.inl (t43, s28.2 + (1 : Int32))))))))) FU ((-1 : Int32), (0 : Int32))) (fun e => e = nI (Vw (cw τ pl E m lw st) (j + 1) a)) := by
                refine OK.itr (m / st - a + 1) (fun n s => s.2 = nI n ∧ ((n = 0 ∧ s.1 = -1) ∨ (∃ b, a ≤ b ∧ b < a + n ∧ s.1 = nI (wF (cw τ pl E m lw st) k (Vw (cw τ pl E m lw st) j) a b) ∧ ∀ x, a ≤ x → x < a + n → wF (cw τ pl E m lw st) k (Vw (cw τ pl E m lw st) j) a b ≤ wF (cw τ pl E m lw st) k (Vw (cw τ pl E m lw st) j) a x))) ⟨rfl, Or.inl ⟨rfl, rfl⟩⟩ (fun n s hn hs' => ?_) (fun s hs' => ?_) (FU_lt (by omega))
                · obtain ⟨be, n'⟩ := s
                  obtain ⟨e1, hd⟩ := hs'
                  simp only at e1 hd ⊢
                  subst e1
                  have hanS : a + n ≤ m / st := by omega
                  have hwc := m_wcost_eq hok hM4 (k := k) (a := a) (n := n) (show k ≤ lw by omega) (show a + n ≤ m / st by omega)
                  have hwc' : m_weekCost τ4 (nI k) (nI (lw + 1)) (nI a) (nI n) (nI st) (nI (m % st)) = some (nI ((n * (cw τ pl E m lw st).2.2.1 + (if k = (cw τ pl E m lw st).2.1 then (cw τ pl E m lw st).2.2.2.2.1 else 0)) * (nb ((cw τ pl E m lw st).2.2.2.2.2 k + a * (cw τ pl E m lw st).2.2.1 + (n * (cw τ pl E m lw st).2.2.1 + (if k = (cw τ pl E m lw st).2.1 then (cw τ pl E m lw st).2.2.2.2.1 else 0))) + k))) := hwc
                  have hwF := wcost_F (c := cw τ pl E m lw st) (k := k) hkl' (Vw (cw τ pl E m lw st) j) a n
                  have hFl := wF_le hok (show k ≤ 5 by omega) hV (show a ≤ a + n by omega) hanS
                  have e201 : (201 : Int32) * nI (k + 1) = nI (201 * (k + 1)) := pk_mul 201 (k + 1)
                  have hup' := hup (k + 1) (a + n) (Nat.le_refl _) (by omega) hanS
                  rw [hj2] at hup'
                  rw [if_neg (nI_nlt (by omega) (by omega)), if_neg (nI_ne0 (show 0 < st by omega) (by omega)), hwc', obs, if_neg ek', nI_1, e201, nI_add, nI_add, ix_nI (show 201 * (k + 1) + a + n < 1407 by omega) (by decide), obs, obs, show 201 * (k + 1) + a + n = 201 * (k + 1) + (a + n) by omega, hup', nI_add, hwF, nI_1]
                  rcases hd with ⟨rfl, f1⟩ | ⟨b, b1, b2, b3, b4⟩
                  · rw [f1, if_pos (show (-1 : Int32) < 0 by decide), obs]
                    refine OK.so ⟨rfl, Or.inr ⟨a + 0, by omega, by omega, rfl, fun x hx1 hx2 => ?_⟩⟩
                    have : x = a + 0 := by omega
                    rw [this]; exact Nat.le_refl _
                  · have hFb := wF_le hok (show k ≤ 5 by omega) hV b1 (show b ≤ m / st by omega)
                    rw [b3, if_neg (nI_pos (by omega))]
                    by_cases cc : wF (cw τ pl E m lw st) k (Vw (cw τ pl E m lw st) j) a (a + n) < wF (cw τ pl E m lw st) k (Vw (cw τ pl E m lw st) j) a b
                    · rw [if_pos (nI_lt cc (by omega)), obs]
                      refine OK.so ⟨rfl, Or.inr ⟨a + n, by omega, by omega, rfl, fun x hx1 hx2 => ?_⟩⟩
                      by_cases e : x = a + n
                      · rw [e]; exact Nat.le_refl _
                      · have := b4 x hx1 (by omega); omega
                    · rw [if_neg (nI_nlt (by omega) (by omega)), obs]
                      refine OK.so ⟨rfl, Or.inr ⟨b, b1, by omega, rfl, fun x hx1 hx2 => ?_⟩⟩
                      by_cases e : x = a + n
                      · rw [e]; omega
                      · exact b4 x hx1 (by omega)
                · obtain ⟨be, n'⟩ := s
                  obtain ⟨e1, hd⟩ := hs'
                  simp only at e1 hd ⊢
                  subst e1
                  rw [if_pos (nI_lt (Nat.lt_succ_self _) (by omega))]
                  refine OK.so ?_
                  show be = _
                  rcases hd with ⟨f0, -⟩ | ⟨b, b1, b2, b3, b4⟩
                  · omega
                  · rw [b3]
                    congr 1
                    have g1 := hsp'.2.2.2.1 b b1 (by omega)
                    have g2 := b4 (Bw (cw τ pl E m lw st) j a) hsp'.1 (by have := hsp'.2.1; omega)
                    have g3 := hsp'.2.2.1
                    omega
              obtain ⟨e, y1, y2⟩ := hk2
              rw [y1, y2]
          obtain ⟨t25, v, i1, i2, i3⟩ := inner
          have e201 : (201 : Int32) * nI k = nI (201 * k) := pk_mul 201 k
          rw [i1, obs, i3, obs, e201, nI_add, ix_nI (show 201 * k + a < 1407 by omega) (by decide), obs, lt1_eq, nI_1]
          refine OK.so ⟨rfl, ⟨hM4.1.sx rfl, hM4.2⟩, fun k' x hk1 hk2 hx => ?_, fun x hx => ?_⟩
          · show (sx τ4 0 43 (201 * k + a) (nI v)).1 0 43 (201 * k' + x) = _
            rw [sx_1, if_neg (fun y => by have := y.2.2; omega)]
            exact hup k' x hk1 hk2 hx
          · show (sx τ4 0 43 (201 * k + a) (nI v)).1 0 43 (201 * k + x) = _
            rw [sx_1]
            by_cases e : x = a
            · subst e; rw [if_pos ⟨rfl, rfl, rfl⟩, i2]
            · rw [if_neg (fun y => by have := y.2.2; omega)]
              exact hlo x (by omega)
        · obtain ⟨a', τ4⟩ := s
          obtain ⟨e1, hM4, hup, hlo⟩ := hs'
          simp only at e1 hM4 hup hlo ⊢
          subst e1
          rw [if_pos (nI_lt (Nat.lt_succ_self _) (by omega))]
          refine OK.so ⟨hM4, fun k' x hk1 hk2 hx => ?_⟩
          by_cases e : k' = k
          · subst e; exact hlo x (by omega)
          · exact hup k' x (by omega) hk2 hx
      · have em : nI k + (-1) = nI k - 1 := by grind
        rw [em]
        exact OK.so ⟨rfl, hs'.1, hs'.2⟩
    · obtain ⟨k', τ3⟩ := s
      obtain ⟨e1, hM3, ht3⟩ := hs'
      simp only at e1 hM3 ht3 ⊢
      rw [Nat.sub_self] at e1 ht3
      rw [e1, if_pos (show nI 0 - 1 < 0 by decide)]
      exact OK.so ⟨hM3, fun k a hk ha => ht3 k a (Nat.zero_le _) hk ha⟩
end WeekM
