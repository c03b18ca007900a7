/-! ===== choice ===== -/
section ChoiceF
variable {σ τ : St} {U P Q T R L E : Nat}
theorem MP.put {c : CP} {ml : List Nat} {τ1 : St} (h : MP τ c ml τ1) {k : Nat} {v : Int32} (hk : k = 42 ∨ k = 43 ∨ k = 44 ∨ k = 45) : MP τ c ml (sx τ1 0 0 k v) := by
  obtain ⟨h1, h2, h3, h4⟩ := h
  rcases hk with rfl | rfl | rfl | rfl
  · exact ⟨h1.sx rfl, h2, h3, h4⟩
  · exact ⟨h1.sx rfl, h2, h3, h4⟩
  · exact ⟨h1.sx rfl, h2, h3, h4⟩
  · exact ⟨h1.sx rfl, h2, h3, h4⟩
set_option maxHeartbeats 1000000 in
theorem m_choice_ok (h : InvB σ τ U P Q T R L E) {g : Nat → Int32} {pl : Int32} {τ1 : St} (hM : (mml τ g pl Q).length ≤ 12) (hP : MP τ (cpx τ g pl P Q T R) (mml τ g pl Q) τ1) {n : Nat} (hn : n ≤ (mml τ g pl Q).length) : OK (m_findChoice τ1 (nI n)) (fun τ' => MG τ (cpx τ g pl P Q T R) (mml τ g pl Q) τ' ∧ MB (cpx τ g pl P Q T R) (cBst (cpx τ g pl P Q T R) n (2 ^ (mml τ g pl Q).length)) τ') := by
  have hq := h.2.2.2.1
  have hQ := hq.1
  have hp12 := p12 hM
  have hc1 : (cpx τ g pl P Q T R).1 = (mml τ g pl Q).length := rfl
  have hmem : ∀ τ', MP τ (cpx τ g pl P Q T R) (mml τ g pl Q) τ' → ∀ x, x < (mml τ g pl Q).length → ∃ k, (mml τ g pl Q)[x]? = some k ∧ k < Q ∧ memd τ g pl Q x = k ∧ τ'.1 0 30 x = nI k := by
    intro τ' hP' x hx
    have hk : (mml τ g pl Q)[x]? = some (mml τ g pl Q)[x] := List.getElem?_eq_getElem hx
    exact ⟨_, hk, (rf_lt hk).1, memd_eq hk, hP'.2.2.2 x _ hk⟩
  unfold m_findChoice
  rw [lt1_eq]
  refine OK.bi (OK.mono (R := fun τ2 => MG τ (cpx τ g pl P Q T R) (mml τ g pl Q) τ2 ∧ τ2.1 0 0 42 = -1) ?_ ?_)
  · refine OK.itr (mml τ g pl Q).length (fun i s => s.1 = nI i ∧ MP τ (cpx τ g pl P Q T R) (mml τ g pl Q) s.2 ∧ s.2.1 0 0 42 = -1 ∧ ∀ x, x < i → s.2.1 0 31 x = (cpx τ g pl P Q T R).2.1 x ∧ s.2.1 0 32 x = (cpx τ g pl P Q T R).2.2.1 x) ⟨rfl, hP.put (Or.inl rfl), by simp [sx_1], fun x hx => by omega⟩ (fun i s hi hs' => ?_) (fun s hs' => ?_) (FU_lt (by omega))
    · obtain ⟨i', τ2⟩ := s
      obtain ⟨e1, hP2, h42, hr⟩ := hs'
      simp only at e1 hP2 h42 hr ⊢
      subst e1
      obtain ⟨k, k1, k2, k3, k4⟩ := hmem τ2 hP2 i hi
      have hf2 := hP2.1
      have h40 : τ2.1 0 0 40 = nI (mml τ g pl Q).length := hP2.2.1
      have hsv : m_severanceOf τ2 (nI k) = some (sev τ k) := by rw [m_sev (h.frM hf2).2.2.2.1 k2, sev_fr hf2]
      have hcx : (cpx τ g pl P Q T R).2.1 i = sev τ k + (if τ.1 0 16 k < 0 then 0 else τ.1 0 16 k) := by
        show sev τ (memd τ g pl Q i) + _ = _
        rw [k3]
      have hmx : (cpx τ g pl P Q T R).2.2.1 i = mk τ T R k (τ.1 0 0 0) := by
        show mk τ T R (memd τ g pl Q i) _ = _
        rw [k3]
      rw [h40, if_pos (nI_lt hi (by omega)), ix_nI (show i < 40 by omega) (by decide), obs, k4, hsv, obs, ix_nI (show k < 40 by omega) (by decide), obs, obs, (hf2 0 16 k rfl).1]
      have e54 : (if τ.1 0 16 k < 0 then some (0 : Int32) else some (τ.1 0 16 k)) = some (if τ.1 0 16 k < 0 then 0 else τ.1 0 16 k) := by split <;> rfl
      rw [e54, obs, ix_nI (show i < 12 by omega) (by decide), obs, lt1_eq, ← hcx]
      have hf3 : FrM τ (sx τ2 0 31 i ((cpx τ g pl P Q T R).2.1 i)) := hf2.sx rfl
      have hw3 := h.wk.fr hf3
      have hmk : m_markOf (sx τ2 0 31 i ((cpx τ g pl P Q T R).2.1 i)) (nI k) ((sx τ2 0 31 i ((cpx τ g pl P Q T R).2.1 i)).1 0 0 0) = some ((cpx τ g pl P Q T R).2.2.1 i) := by
        rw [(hf3 0 0 0 rfl).1, m_mark_eq hw3.2.2.1 hw3.1 hw3.2.1 hw3.2.2.2.2.2.1 hw3.2.2.2.2.2.2 hw3.2.2.2.1 hw3.2.2.2.2.1 k2, mk_fr hf3, hmx]
      rw [hmk, obs, obs, lt1_eq, nI_1]
      refine OK.so ⟨rfl, ⟨hf3.sx rfl, hP2.2.1, hP2.2.2.1, hP2.2.2.2⟩, h42, fun x hx => ?_⟩
      simp only [sx_1]
      by_cases e : x = i
      · subst e
        simp
      · obtain ⟨d1, d2⟩ := hr x (by omega)
        simp [e]
        exact ⟨d1, d2⟩
    · obtain ⟨i', τ2⟩ := s
      obtain ⟨e1, hP2, h42, hr⟩ := hs'
      simp only at e1 hP2 h42 hr ⊢
      subst e1
      have h40 : τ2.1 0 0 40 = nI (mml τ g pl Q).length := hP2.2.1
      rw [h40, if_neg (nI_nlt (Nat.le_refl _) (by omega))]
      exact OK.so ⟨⟨hP2, hr⟩, h42⟩
  · rintro τ2 ⟨hG2, h42⟩
    refine OK.bi (OK.mono (R := fun τ' => MG τ (cpx τ g pl P Q T R) (mml τ g pl Q) τ' ∧ MB (cpx τ g pl P Q T R) (cBst (cpx τ g pl P Q T R) n (2 ^ (mml τ g pl Q).length)) τ') ?_ (fun s hs' => OK.so hs'))
    refine OK.itr (2 ^ (mml τ g pl Q).length) (fun s st => st.1 = nI s ∧ MG τ (cpx τ g pl P Q T R) (mml τ g pl Q) st.2 ∧ MB (cpx τ g pl P Q T R) (cBst (cpx τ g pl P Q T R) n s) st.2) ⟨rfl, hG2, h42⟩ (fun s st hs hs' => ?_) (fun st hs' => ?_) (FU_lt (by omega))
    · obtain ⟨s', τ3⟩ := st
      obtain ⟨e1, hG3, hB3⟩ := hs'
      simp only at e1 hG3 hB3 ⊢
      subst e1
      have h40 : τ3.1 0 0 40 = nI (mml τ g pl Q).length := hG3.1.2.1
      have hpl := pc_le s
      rw [h40, shl_x' hM, if_pos (nI_lt hs (by omega)), m_ones_eq (by omega), obs, nI_1, m_mayGo_eq h hM hG3.1 hs, obs]
      have hst : cBst (cpx τ g pl P Q T R) n (s + 1) = if cOk (cpx τ g pl P Q T R) n s then cUpd (cpx τ g pl P Q T R) s (cBst (cpx τ g pl P Q T R) n s) else cBst (cpx τ g pl P Q T R) n s := rfl
      rw [hst]
      have keep : cOk (cpx τ g pl P Q T R) n s = false → OK (some (Sum.inl (β := St) (nI (s + 1), τ3))) (fun x => Sum.elim (fun st : Int32 × St => st.1 = nI (s + 1) ∧ MG τ (cpx τ g pl P Q T R) (mml τ g pl Q) st.2 ∧ MB (cpx τ g pl P Q T R) (if cOk (cpx τ g pl P Q T R) n s = true then cUpd (cpx τ g pl P Q T R) s (cBst (cpx τ g pl P Q T R) n s) else cBst (cpx τ g pl P Q T R) n s) st.2) (fun τ' => MG τ (cpx τ g pl P Q T R) (mml τ g pl Q) τ' ∧ MB (cpx τ g pl P Q T R) (cBst (cpx τ g pl P Q T R) n (2 ^ (mml τ g pl Q).length)) τ') x) := by
        intro hk
        rw [hk]
        exact OK.so ⟨rfl, hG3, hB3⟩
      by_cases c1 : pc s = n
      · rw [if_pos (by rw [c1])]
        cases hbl : (cBar (cpx τ g pl P Q T R) s || anyB (cLack (cpx τ g pl P Q T R) s) 10) with
        | true =>
          rw [if_pos rfl, if_pos rfl, obs]
          refine keep ?_
          unfold cOk
          rw [← Bool.not_or, hbl]
          simp
        | false =>
          have hok : cOk (cpx τ g pl P Q T R) n s = true := by
            unfold cOk
            rw [← Bool.not_or, hbl, decide_eq_true c1]
            rfl
          rw [if_neg (show ¬ (false = true) by decide), if_neg (show ¬ (1 : Int32) = 0 by decide), hok, if_pos rfl]
          -- the three sums
          have hsum : itr0 (S := Int32 × Int32 × Int32 × Int32) (E := Int32 × Int32 × Int32) (fun s25 => (if s25.2.2.2 < nI (mml τ g pl Q).length then (Option.bind (α := Int32 × Int32 × Int32) ((if (nI s >>> (s25.2.2.2 &&& 31)) &&& (1 : Int32) = (1 : Int32) then (Option.bind (ix 40 s25.2.2.2) fun i43 => (Option.bind (ix 40 (τ3.1 0 30 i43)) fun i44 => (Option.bind (α := Int32) ((if τ3.1 0 16 i44 < 0 then some (1 : Int32) else some (0 : Int32))) fun t45 => (Option.bind (ix 12 s25.2.2.2) fun i48 => (Option.bind (ix 12 s25.2.2.2) fun i49 => some (s25.1 + t45, s25.2.1 + (τ3.1 0 31 i48), s25.2.2.1 + (τ3.1 0 32 i49))))))) else some (s25.1, s25.2.1, s25.2.2.1))) fun t40 => some (.inl (t40.1, t40.2.1, t40.2.2, s25.2.2.2 + (1 : Int32)))) else some (.inr (s25.1, s25.2.1, s25.2.2.1)))) FU ((0 : Int32), (0 : Int32), (0 : Int32), (0 : Int32)) = some (nI (cFor (cpx τ g pl P Q T R) s), tsum (cpx τ g pl P Q T R).2.1 s (mml τ g pl Q).length, tsum (cpx τ g pl P Q T R).2.2.1 s (mml τ g pl Q).length) := by
            refine itr_eq (mml τ g pl Q).length (fun i => (nI (cnt (fun x => s.testBit x && !(cpx τ g pl P Q T R).2.2.2.1 x) i), tsum (cpx τ g pl P Q T R).2.1 s i, tsum (cpx τ g pl P Q T R).2.2.1 s i, nI i)) _ rfl (fun i hi => ?_) ?_ (FU_lt (by omega))
            · obtain ⟨k, k1, k2, k3, k4⟩ := hmem τ3 hG3.1 i hi
              obtain ⟨d1, d2⟩ := hG3.2 i hi
              have hvB : (cpx τ g pl P Q T R).2.2.2.1 i = decide (¬ τ.1 0 16 k < 0) := by
                show decide (¬ τ.1 0 16 (memd τ g pl Q i) < 0) = _
                rw [k3]
              have hbit := bitI (m := s) (u := i) (by omega) (by omega)
              have ts1 : tsum (cpx τ g pl P Q T R).2.1 s (i + 1) = if s.testBit i then tsum (cpx τ g pl P Q T R).2.1 s i + (cpx τ g pl P Q T R).2.1 i else tsum (cpx τ g pl P Q T R).2.1 s i := rfl
              have ts2 : tsum (cpx τ g pl P Q T R).2.2.1 s (i + 1) = if s.testBit i then tsum (cpx τ g pl P Q T R).2.2.1 s i + (cpx τ g pl P Q T R).2.2.1 i else tsum (cpx τ g pl P Q T R).2.2.1 s i := rfl
              simp only [if_pos (nI_lt hi (show (mml τ g pl Q).length < 2 ^ 31 by omega)), ix_nI (show i < 40 by omega) (show 40 < 2 ^ 31 by decide), ix_nI (show i < 12 by omega) (show 12 < 2 ^ 31 by decide), obs, k4, ix_nI (show k < 40 by omega) (show 40 < 2 ^ 31 by decide), (hG3.1.1 0 16 k rfl).1, d1, d2, cnt_step, hvB, nI_1, ts1, ts2]
              cases hsb : s.testBit i with
              | false =>
                rw [if_neg (fun e => by rw [hbit.mp e] at hsb; cases hsb), obs]
                simp
              | true =>
                rw [if_pos (hbit.mpr hsb)]
                by_cases cv : τ.1 0 16 k < 0
                · simp only [if_pos cv, obs, decide_eq_false (show ¬ ¬ τ.1 0 16 k < 0 from fun x => x cv), Bool.not_false, Bool.and_self, if_true, nI_1]
                · simp only [if_neg cv, obs, decide_eq_true (show ¬ τ.1 0 16 k < 0 from cv), Bool.not_true, Bool.and_false, Bool.false_eq_true, if_false, if_true]
                  congr 3
                  grind
            · simp only [if_neg (nI_nlt (Nat.le_refl _) (show (mml τ g pl Q).length < 2 ^ 31 by omega))]
              rfl
          rw [hsum, obs]
          have hcf : cFor (cpx τ g pl P Q T R) s ≤ (mml τ g pl Q).length := cnt_le
          have upd : OK (some (Sum.inl (β := St) (nI (s + 1), sx (sx (sx (sx τ3 0 0 42 (nI s)) 0 0 43 (nI (cFor (cpx τ g pl P Q T R) s))) 0 0 44 (tsum (cpx τ g pl P Q T R).2.1 s (mml τ g pl Q).length)) 0 0 45 (tsum (cpx τ g pl P Q T R).2.2.1 s (mml τ g pl Q).length)))) (fun x => Sum.elim (fun st : Int32 × St => st.1 = nI (s + 1) ∧ MG τ (cpx τ g pl P Q T R) (mml τ g pl Q) st.2 ∧ MB (cpx τ g pl P Q T R) (some s) st.2) (fun τ' => MG τ (cpx τ g pl P Q T R) (mml τ g pl Q) τ' ∧ MB (cpx τ g pl P Q T R) (cBst (cpx τ g pl P Q T R) n (2 ^ (mml τ g pl Q).length)) τ') x) := by
            refine OK.so ⟨rfl, ⟨(((hG3.1.put (Or.inl rfl)).put (Or.inr (Or.inl rfl))).put (Or.inr (Or.inr (Or.inl rfl)))).put (Or.inr (Or.inr (Or.inr rfl))), hG3.2⟩, ?_⟩
            exact ⟨by simp [sx_1], by simp [sx_1], by simp [sx_1, hc1], by simp [sx_1, hc1]⟩
          generalize hbs : cBst (cpx τ g pl P Q T R) n s = ob at *
          cases ob with
          | none =>
            have h42' : τ3.1 0 0 42 = -1 := hB3
            rw [h42', if_pos (show (-1 : Int32) < 0 by decide), obs, if_neg (show ¬ (1 : Int32) = 0 by decide), lt1_eq, lt1_eq, lt1_eq, lt1_eq, obs, cUpd_n]
            exact upd
          | some b =>
            obtain ⟨w1, w2, w3, w4⟩ := id hB3
            have hbl2 := cBst_lt hbs
            have hcb : cFor (cpx τ g pl P Q T R) b ≤ (mml τ g pl Q).length := cnt_le
            rw [hc1] at w3 w4
            rw [w1, w2, w3, w4, if_neg (nI_pos (show b < 2 ^ 31 by omega))]
            have hbet : (if nI (cFor (cpx τ g pl P Q T R) s) < nI (cFor (cpx τ g pl P Q T R) b) then some (1 : Int32) else (if nI (cFor (cpx τ g pl P Q T R) s) = nI (cFor (cpx τ g pl P Q T R) b) then (if tsum (cpx τ g pl P Q T R).2.1 s (mml τ g pl Q).length < tsum (cpx τ g pl P Q T R).2.1 b (mml τ g pl Q).length then some (1 : Int32) else (if tsum (cpx τ g pl P Q T R).2.1 s (mml τ g pl Q).length = tsum (cpx τ g pl P Q T R).2.1 b (mml τ g pl Q).length then (if tsum (cpx τ g pl P Q T R).2.2.1 s (mml τ g pl Q).length < tsum (cpx τ g pl P Q T R).2.2.1 b (mml τ g pl Q).length then some (1 : Int32) else some (0 : Int32)) else some (0 : Int32))) else some (0 : Int32))) = some (if cBet (cpx τ g pl P Q T R) s b then 1 else 0) := by
              unfold cBet
              rw [hc1]
              by_cases c2 : cFor (cpx τ g pl P Q T R) s < cFor (cpx τ g pl P Q T R) b
              · rw [if_pos (nI_lt c2 (by omega)), if_pos (decide_eq_true (Or.inl c2))]
              · rw [if_neg (nI_nlt (by omega) (by omega))]
                by_cases c3 : cFor (cpx τ g pl P Q T R) s = cFor (cpx τ g pl P Q T R) b
                · rw [if_pos (by rw [c3])]
                  by_cases c4 : tsum (cpx τ g pl P Q T R).2.1 s (mml τ g pl Q).length < tsum (cpx τ g pl P Q T R).2.1 b (mml τ g pl Q).length
                  · rw [if_pos c4, if_pos (decide_eq_true (Or.inr ⟨c3, Or.inl c4⟩))]
                  · rw [if_neg c4]
                    by_cases c5 : tsum (cpx τ g pl P Q T R).2.1 s (mml τ g pl Q).length = tsum (cpx τ g pl P Q T R).2.1 b (mml τ g pl Q).length
                    · rw [if_pos c5]
                      by_cases c6 : tsum (cpx τ g pl P Q T R).2.2.1 s (mml τ g pl Q).length < tsum (cpx τ g pl P Q T R).2.2.1 b (mml τ g pl Q).length
                      · rw [if_pos c6, if_pos (decide_eq_true (Or.inr ⟨c3, Or.inr ⟨c5, c6⟩⟩))]
                      · rw [if_neg c6, if_neg (fun e => (of_decide_eq_true e).elim (fun x => c2 x) (fun x => x.2.elim c4 (fun y => c6 y.2)))]
                    · rw [if_neg c5, if_neg (fun e => (of_decide_eq_true e).elim (fun x => c2 x) (fun x => x.2.elim c4 (fun y => c5 y.1)))]
                · rw [if_neg (fun e => c3 (nI_inj (by omega) (by omega) e)), if_neg (fun e => (of_decide_eq_true e).elim (fun x => c2 x) (fun x => c3 x.1))]
            rw [hbet, obs]
            cases hb : cBet (cpx τ g pl P Q T R) s b with
            | true =>
              rw [if_pos rfl, if_neg (show ¬ (1 : Int32) = 0 by decide), lt1_eq, lt1_eq, lt1_eq, lt1_eq, obs, cUpd_t hb]
              exact upd
            | false =>
              rw [if_neg (show ¬ (false = true) by decide), if_pos rfl, obs, cUpd_f (by rw [hb]; decide)]
              exact OK.so ⟨rfl, hG3, hB3⟩
      · rw [if_neg (fun e => c1 (nI_inj (by omega) (by omega) e)), obs]
        exact keep (by unfold cOk; rw [decide_eq_false c1]; rfl)
    · obtain ⟨s', τ3⟩ := st
      obtain ⟨e1, hG3, hB3⟩ := hs'
      simp only at e1 hG3 hB3 ⊢
      subst e1
      have h40 : τ3.1 0 0 40 = nI (mml τ g pl Q).length := hG3.1.2.1
      rw [h40, shl_x' hM, if_neg (nI_nlt (Nat.le_refl _) (by omega))]
      exact OK.so ⟨hG3, hB3⟩
end ChoiceF
