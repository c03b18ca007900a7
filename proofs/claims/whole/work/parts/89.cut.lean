/-! ===== the class's ranks; cut ===== -/
/-- people gathered by rank -/
def RG (σ : St) (el : List Nat) (f : Nat → Int32) (σ' : St) : Prop := FrC σ σ' ∧ σ'.1 0 3 5 = nI el.length ∧ ∀ x k, el[x]? = some k → σ'.2 0 18 x = some k ∧ σ'.1 0 19 x = f k
theorem take_snoc {l : List Nat} {i k : Nat} (h : l[i]? = some k) : l.take (i + 1) = l.take i ++ [k] := by
  rw [List.take_succ, h]
  rfl
section Ranks
variable {σ τ : St} {U P Q T R L E : Nat}
theorem p_member_eq {σ' : St} {l : List Nat} (hl : l.length ≤ 40) (h6 : σ'.1 0 2 6 = nI l.length) (hm : ∀ x k, l[x]? = some k → σ'.2 0 17 x = some k) {x k : Nat} (hx : l[x]? = some k) : p_Pools_memberAt σ' (nI x) = some (some k) := by
  have := gq_lt hx
  unfold p_Pools_memberAt
  rw [if_neg (nI_pos (by omega)), h6, if_pos (nI_lt this (by omega)), ix_nI (show x < 40 by omega) (by decide), obs, lt1_eq, hm x k hx]
theorem p_prot_eq (hs : ISc σ τ) (hq : IPe σ τ P Q T) {k : Nat} (hk : k < Q) : p_Firm_isProtected σ k = some (if decide (τ.1 0 15 k < τ.1 0 0 0) then 0 else 1) := by
  unfold p_Firm_isProtected
  rw [(hq.2.2.2 k hk).2.2.2.2.2.2.1, hs.1]
  simp only [decide_eq_true_iff]
  split <;> rfl
set_option maxHeartbeats 400000 in
theorem p_rgather_ok (h : InvB σ τ U P Q T R L E) {g : Nat → Int32} {pl : Int32} {σ1 τ1 : St} (hT : TK σ τ P Q g pl σ1 τ1) : OK (p_Ranks_gather σ1) (RG σ (ell τ g pl Q) (fun k => mk τ T R k (τ.1 0 0 0))) := by
  obtain ⟨t1, t2, t3, t4, t5, t6⟩ := hT
  have hQ := h.2.2.2.1.1
  have hlen : (mml τ g pl Q).length ≤ 40 := Nat.le_trans (rf_len _ Q) hQ
  have hel : ell τ g pl Q = (mml τ g pl Q).filter (fun k => decide (τ.1 0 15 k < τ.1 0 0 0)) := by
    rw [List.filter_filter]
    have : elB τ g pl = fun a => decide (τ.1 0 15 a < τ.1 0 0 0) && mmB τ g pl a := by
      funext k
      unfold elB
      rw [Bool.and_comm]
    show (List.range Q).filter (elB τ g pl) = _
    rw [this]
  rw [hel]
  generalize hml : mml τ g pl Q = ml at hlen t5 t6
  have hmq : ∀ x k, ml[x]? = some k → k < Q := fun x k hx => by rw [← hml] at hx; exact (rf_lt hx).1
  unfold p_Ranks_gather
  rw [lt1_eq]
  refine OK.bi (OK.mono (R := RG σ (ml.filter (fun k => decide (τ.1 0 15 k < τ.1 0 0 0))) (fun k => mk τ T R k (τ.1 0 0 0))) ?_ (fun s hs' => OK.so hs'))
  refine OK.itr ml.length (fun i s => s.1 = nI i ∧ s.2.1 0 2 6 = nI ml.length ∧ (∀ x k, ml[x]? = some k → s.2.2 0 17 x = some k) ∧ RG σ ((ml.take i).filter (fun k => decide (τ.1 0 15 k < τ.1 0 0 0))) (fun k => mk τ T R k (τ.1 0 0 0)) s.2) ⟨rfl, t5, t6, t1.sx rfl, rfl, fun x k hx => by simp at hx⟩ (fun i s hi hs' => ?_) (fun s hs' => ?_) (FU_lt (by omega))
  · obtain ⟨i', σ2⟩ := s
    obtain ⟨e1, h6, h17, hf, h35, hrow⟩ := hs'
    simp only at e1 h6 h17 hf h35 hrow ⊢
    subst e1
    obtain ⟨k, hk⟩ : ∃ k, ml[i]? = some k := ⟨ml[i], List.getElem?_eq_getElem hi⟩
    have hkQ := hmq i k hk
    have h2 := h.frC hf
    have ht := take_snoc hk
    have hln : ((ml.take i).filter (fun k => decide (τ.1 0 15 k < τ.1 0 0 0))).length ≤ i := by
      refine Nat.le_trans (List.length_filter_le _ _) ?_
      rw [List.length_take]; omega
    generalize hr : (ml.take i).filter (fun k => decide (τ.1 0 15 k < τ.1 0 0 0)) = r at h35 hrow hln
    rw [h6, if_pos (nI_lt hi (by omega)), p_member_eq hlen h6 h17 hk]
    simp only [obs, oes, p_prot_eq h2.1 h2.2.2.2.1 hkQ, h35, if_pos (show nI r.length < 40 from nI_lt (b := 40) (by omega) (by decide)), ix_nI (show r.length < 40 by omega) (show 40 < 2 ^ 31 by decide), lt1_eq, nI_1]
    by_cases hg : τ.1 0 15 k < τ.1 0 0 0
    · have e2 : (ml.take (i + 1)).filter (fun k => decide (τ.1 0 15 k < τ.1 0 0 0)) = r ++ [k] := by
        rw [ht, List.filter_append, hr]
        simp [hg]
      have hfy : FrC σ (sy σ2 0 18 r.length (some k)) := hf.sy rfl
      have h3 := h.frC hfy
      have hmk : p_Firm_markAsOf (sy σ2 0 18 r.length (some k)) k ((sy σ2 0 18 r.length (some k)).1 0 1 0) = some (mk τ T R k (τ.1 0 0 0)) := by
        rw [h3.1.1, p_mark_eq h3.1 h3.2.2.1 h3.2.2.2.1 h3.2.2.2.2.1 h3.2.2.2.2.2.1 hkQ]
      have e35 : (sy σ2 0 18 r.length (some k)).1 0 3 5 = nI r.length := h35
      simp only [decide_eq_true hg, if_true, hmk, obs, e35, ix_nI (show r.length < 40 by omega) (show 40 < 2 ^ 31 by decide)]
      have e36 : (sx (sy σ2 0 18 r.length (some k)) 0 19 r.length (mk τ T R k (τ.1 0 0 0))).1 0 3 5 = nI r.length := h35
      rw [e36, nI_1]
      refine OK.so ⟨rfl, h6, h17, ?_⟩
      rw [e2]
      refine ⟨(hfy.sx rfl).sx rfl, ?_, fun x j hx => ?_⟩
      · simp [sx_1]
      · simp only [sx_1, sx_2, sy_1, sy_2]
        rcases gq_snoc hx with c | ⟨c1, c2⟩
        · have hlt := gq_lt c
          obtain ⟨d1, d2⟩ := hrow x j c
          simp
          rw [if_neg (by omega), if_neg (by omega)]
          exact ⟨d1, d2⟩
        · subst c1; subst c2
          simp
    · have e2 : (ml.take (i + 1)).filter (fun k => decide (τ.1 0 15 k < τ.1 0 0 0)) = r := by
        rw [ht, List.filter_append, hr]
        simp [hg]
      simp only [decide_eq_false hg, Bool.false_eq_true, if_false, if_neg (show ¬ (1 : Int32) = 0 by decide), obs]
      refine OK.so ⟨rfl, h6, h17, ?_⟩
      rw [e2]
      exact ⟨hf, h35, hrow⟩
  · obtain ⟨i', σ2⟩ := s
    obtain ⟨e1, h6, h17, hR⟩ := hs'
    simp only at e1 h6 h17 hR ⊢
    subst e1
    rw [h6, if_neg (nI_nlt (Nat.le_refl _) (by omega))]
    rw [List.take_length] at hR
    exact OK.so hR
/-- how many go before one -/
theorem p_ahead_eq (h : InvB σ τ U P Q T R L E) {σ' : St} (hf : FrC σ σ') {el : List Nat} (hlen : el.length ≤ 40) (hQ' : ∀ x k : Nat, el[x]? = some k → k < Q) (h35 : σ'.1 0 3 5 = nI el.length) (hrow : ∀ x k : Nat, el[x]? = some k → σ'.2 0 18 x = some k) {c : Nat} {f : Nat → Int32} (hc : ∀ x k : Nat, el[x]? = some k → σ'.1 0 c x = f k) {x k : Nat} (hx : el[x]? = some k) : p_Ranks_ahead σ' c (nI x) = some (nI (el.countP (fun j => ltK f (τ.1 0 10) j k))) := by
  have hQ := h.2.2.2.1.1
  have hq' := (h.frC hf).2.2.2.1
  have hxl := gq_lt hx
  have hkQ := hQ' x k hx
  unfold p_Ranks_ahead
  rw [ix_nI (show x < 40 by omega) (by decide), obs, lt1_eq, hrow x k hx]
  refine itr_bd el.length (fun i => (nI ((el.take i).countP (fun j => ltK f (τ.1 0 10) j k)), nI i)) (nI (el.countP (fun j => ltK f (τ.1 0 10) j k))) (FU_lt (by omega)) rfl (fun i hi => ?_) ?_ rfl
  · obtain ⟨j, hj⟩ : ∃ j, el[i]? = some j := ⟨el[i], List.getElem?_eq_getElem hi⟩
    have hjQ := hQ' i j hj
    rw [take_snoc hj, List.countP_append]
    simp only [h35, if_pos (nI_lt hi (show el.length < 2 ^ 31 by omega)), ix_nI (show i < 40 by omega) (show 40 < 2 ^ 31 by decide), ix_nI (show x < 40 by omega) (show 40 < 2 ^ 31 by decide), obs, lt1_eq, hrow i j hj, oes, hc i j hj, hc x k hx, nI_1]
    have hcc : ∀ m, m < Q → σ'.1 2 m 2 = τ.1 0 10 m ∧ σ'.1 2 m 0 = nI m := fun m hm => ⟨(hq'.2.2.2 m hm).2.2.2.1, (hq'.2.2.2 m hm).2.1⟩
    have hgf : p_Ranks_goesFirst σ' j k = some (if decide (τ.1 0 10 k < τ.1 0 10 j ∨ (τ.1 0 10 k = τ.1 0 10 j ∧ k < j)) then 1 else 0) := by
      unfold p_Ranks_goesFirst
      rw [(hcc j hjQ).1, (hcc k hkQ).1, (hcc j hjQ).2, (hcc k hkQ).2]
      simp only [nI_ltI (show k < 2 ^ 31 by omega) (show j < 2 ^ 31 by omega), decide_eq_true_iff]
      by_cases c1 : τ.1 0 10 j = τ.1 0 10 k
      · rw [if_pos c1]
        have c0 : ¬ τ.1 0 10 k < τ.1 0 10 j := by rw [i_lt, c1]; omega
        by_cases c2 : k < j
        · rw [if_pos c2, if_pos (Or.inr ⟨c1.symm, c2⟩)]
        · rw [if_neg c2, if_neg (fun c => c.elim c0 (fun d => c2 d.2))]
      · rw [if_neg c1]
        by_cases c0 : τ.1 0 10 k < τ.1 0 10 j
        · rw [if_pos c0, if_pos (Or.inl c0)]
        · rw [if_neg c0, if_neg (fun c => c.elim c0 (fun d => c1 d.1.symm))]
    have hstep : (if f j < f k then some (nI ((el.take i).countP (fun j => ltK f (τ.1 0 10) j k) + 1)) else if f j = f k then (p_Ranks_goesFirst σ' j k).bind fun r26 => if r26 = 0 then some (nI ((el.take i).countP (fun j => ltK f (τ.1 0 10) j k))) else some (nI ((el.take i).countP (fun j => ltK f (τ.1 0 10) j k) + 1)) else some (nI ((el.take i).countP (fun j => ltK f (τ.1 0 10) j k)))) = some (nI ((el.take i).countP (fun j => ltK f (τ.1 0 10) j k) + List.countP (fun j => ltK f (τ.1 0 10) j k) [j])) := by
      rw [List.countP_singleton, hgf]
      simp only [obs]
      by_cases c1 : f j < f k
      · have : ltK f (τ.1 0 10) j k = true := decide_eq_true (Or.inl c1)
        rw [if_pos c1, this]
        rfl
      · rw [if_neg c1]
        by_cases c2 : f j = f k
        · rw [if_pos c2]
          by_cases c3 : τ.1 0 10 k < τ.1 0 10 j ∨ (τ.1 0 10 k = τ.1 0 10 j ∧ k < j)
          · have : ltK f (τ.1 0 10) j k = true := decide_eq_true (Or.inr ⟨c2, c3⟩)
            rw [this, decide_eq_true c3]
            rfl
          · have : ltK f (τ.1 0 10) j k = false := decide_eq_false (fun c => c.elim c1 (fun d => c3 d.2))
            rw [this, decide_eq_false c3]
            rfl
        · have : ltK f (τ.1 0 10) j k = false := decide_eq_false (fun c => c.elim c1 (fun d => c2 d.1))
          rw [if_neg c2, this]
          rfl
    rw [hstep]
    rfl
  · simp only [h35, if_neg (nI_nlt (Nat.le_refl el.length) (show el.length < 2 ^ 31 by omega)), List.take_length]
end Ranks
theorem cnt_of_perm {f c : Nat → Int32} {l el : List Nat} (hp : l.Perm el) (k : Nat) : el.countP (fun j => ltK f c j k) = l.countP (fun j => ltK f c j k) := (hp.countP_eq _).symm
