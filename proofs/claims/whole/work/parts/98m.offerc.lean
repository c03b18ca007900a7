/-! ===== offers: what is offered, the class's table ===== -/
def vcl (σ τ : St) (P : Nat) : List Nat := ((List.range P).filter (vaB σ τ)).take 8
def vcd (σ τ : St) (P v : Nat) : Nat := (vcl σ τ P).getD v 0
def lvN (τ : St) (i : Nat) : Nat := (τ.1 0 36 i).toNatClampNeg
def ofw (b : Nat) (σ τ : St) (P L i v : Nat) : Nat := if i < L ∧ v < (vcl σ τ P).length ∧ τ.1 0 14 (lvN τ i) < 0 ∧ ¬ fitv τ (lvN τ i) (vcd σ τ P v) < 30 then (if τ.1 0 15 (lvN τ i) < τ.1 0 0 0 then 0 else 1000000) + b + (fitv τ (lvN τ i) (vcd σ τ P v)).toNatClampNeg else 0
def pkB (w : Nat → Nat → Nat) (V L i t v : Nat) : Bool := okv (w i) t v && decide (w i v + dp w V L (L - (i + 1)) (t ||| 2 ^ v) = dp w V L (L - i) t)
def gn (w : Nat → Nat → Nat) (V L : Nat) : Nat → Nat
  | 0 => 0
  | i + 1 => Option.elim (fstB (pkB w V L i (gn w V L i)) V) (gn w V L i) (fun v => gn w V L i ||| 2 ^ v)
theorem pc_or {t v : Nat} (hv : v < 12) : pc (t ||| 2 ^ v) ≤ pc t + 1 := by
  rw [pc_cnt, pc_cnt]
  have hb : ∀ x, (t ||| 2 ^ v).testBit x = (t.testBit x || decide (v = x)) := fun x => by rw [Nat.testBit_or, Nat.testBit_two_pow]
  cases ht : t.testBit v with
  | true =>
    have : cnt (fun x => (t ||| 2 ^ v).testBit x) 12 = cnt (fun x => t.testBit x) 12 := cnt_cong (fun i _ => by
      rw [hb]
      by_cases e : v = i
      · subst e; rw [ht]; rfl
      · simp [e])
    omega
  | false =>
    have : cnt (fun x => (t ||| 2 ^ v).testBit x) 12 = cnt (fun x => t.testBit x) 12 + 1 := cnt_upd (j := v) hv ht (by rw [hb]; simp) (fun i hi => by
      rw [hb]
      have : ¬ v = i := fun e => hi e.symm
      simp [this])
    omega
theorem or_lt {t v V : Nat} (ht : t < 2 ^ V) (hv : v < V) : t ||| 2 ^ v < 2 ^ V := Nat.or_lt_two_pow ht (Nat.pow_lt_pow_right (by decide) hv)
theorem gn_ok {w : Nat → Nat → Nat} {V L : Nat} (hV : V ≤ 8) : ∀ i, gn w V L i < 2 ^ V ∧ pc (gn w V L i) ≤ i
  | 0 => ⟨Nat.two_pow_pos _, by show pc 0 ≤ 0; rw [pc_0]; exact Nat.le_refl _⟩
  | i + 1 => by
    obtain ⟨h1, h2⟩ := gn_ok (w := w) (L := L) hV i
    show Option.elim (fstB (pkB w V L i (gn w V L i)) V) (gn w V L i) (fun v => gn w V L i ||| 2 ^ v) < 2 ^ V ∧ pc (Option.elim (fstB (pkB w V L i (gn w V L i)) V) (gn w V L i) (fun v => gn w V L i ||| 2 ^ v)) ≤ i + 1
    cases hc : fstB (pkB w V L i (gn w V L i)) V with
    | none => exact ⟨h1, by show pc (gn w V L i) ≤ i + 1; omega⟩
    | some v =>
      have hv := (fstB_some hc).1
      refine ⟨or_lt h1 hv, ?_⟩
      have := pc_or (t := gn w V L i) (v := v) (by omega)
      show pc (gn w V L i ||| 2 ^ v) ≤ i + 1
      omega
theorem rf_pre (p : Nat → Bool) (i : Nat) : ∀ {n : Nat}, i ≤ n → ∃ r, (List.range n).filter p = (List.range i).filter p ++ r
  | 0, h => ⟨[], by have : i = 0 := by omega
                    subst this; simp⟩
  | n + 1, h => by
    by_cases e : i = n + 1
    · subst e; exact ⟨[], by simp⟩
    · obtain ⟨r, hr⟩ := rf_pre p i (n := n) (by omega)
      exact ⟨r ++ (if p n then [n] else []), by rw [rf_succ, hr, List.append_assoc]⟩
section OfferC
variable {σ τ : St} {U P Q T R L E : Nat}
theorem vcl_len (σ τ : St) (P : Nat) : (vcl σ τ P).length ≤ 8 := by
  unfold vcl
  rw [List.length_take]
  omega
theorem vcl_lt {x p : Nat} (h : (vcl σ τ P)[x]? = some p) : p < P ∧ vaB σ τ p = true := by
  unfold vcl at h
  rw [List.getElem?_take] at h
  split at h
  · exact rf_lt h
  · cases h
theorem vcd_eq {x p : Nat} (h : (vcl σ τ P)[x]? = some p) : vcd σ τ P x = p := by
  unfold vcd
  rw [List.getD_eq_getElem?_getD, h]
  rfl
theorem lvN_eq (hl : ILe σ τ Q L) (hQ : Q ≤ 40) {i : Nat} (hi : i < L) : lvN τ i < Q ∧ σ.2 0 28 i = some (lvN τ i) ∧ τ.1 0 36 i = nI (lvN τ i) := by
  obtain ⟨k, h1, h2, h3⟩ := hl.2.2.2 i hi
  have : lvN τ i = k := by unfold lvN; rw [h3, nI_clamp (by omega)]
  rw [this]
  exact ⟨h1, h2, h3⟩
theorem ofw_WR (h : InvB σ τ U P Q T R L E) : WR (ofw 1000 σ τ P L) (ofw 10000 σ τ P L) := by
  intro i v
  unfold ofw
  by_cases c : i < L ∧ v < (vcl σ τ P).length ∧ τ.1 0 14 (lvN τ i) < 0 ∧ ¬ fitv τ (lvN τ i) (vcd σ τ P v) < 30
  · right
    rw [if_pos c, if_pos c]
    have hk := (lvN_eq h.2.2.2.2.2.2.1 h.2.2.2.1.1 c.1).1
    have hv : (vcl σ τ P)[v]? = some (vcl σ τ P)[v] := List.getElem?_eq_getElem c.2.1
    obtain ⟨f, f1, f2, f3⟩ := fit_rg h.2.2.1 h.2.2.2.1 hk (show vcd σ τ P v < P by rw [vcd_eq hv]; exact (vcl_lt hv).1) c.2.2.2
    rw [f3, nI_clamp (by omega)]
    by_cases g : τ.1 0 15 (lvN τ i) < τ.1 0 0 0
    · rw [if_pos g]; exact ⟨0, f, by omega, f1, f2, by omega, by omega⟩
    · rw [if_neg g]; exact ⟨1, f, by omega, f1, f2, by omega, by omega⟩
  · left
    rw [if_neg c, if_neg c]
    exact ⟨rfl, rfl⟩
theorem p_gvac_ok (h : InvB σ τ U P Q T R L E) : OK (p_Offering_gatherVacant σ) (fun σ' => FrC σ σ' ∧ σ'.1 0 6 6 = nI (vcl σ τ P).length ∧ ∀ x p, (vcl σ τ P)[x]? = some p → σ'.2 0 29 x = some p) := by
  have hp := h.2.2.1
  have hP := hp.1
  have fin : ∀ i, i ≤ P → ((List.range i).filter (vaB σ τ)).length ≤ 8 → (i = P ∨ ((List.range i).filter (vaB σ τ)).length = 8) → vcl σ τ P = (List.range i).filter (vaB σ τ) := by
    intro i hi hl hd
    unfold vcl
    obtain ⟨r, hr⟩ := rf_pre (vaB σ τ) i hi
    rcases hd with rfl | hd
    · rw [List.take_of_length_le hl]
    · rw [hr, List.take_append_of_le_length (by omega), List.take_of_length_le (by omega)]
  unfold p_Offering_gatherVacant
  rw [lt1_eq]
  refine OK.bi (OK.mono (R := fun σ' => FrC σ σ' ∧ σ'.1 0 6 6 = nI (vcl σ τ P).length ∧ ∀ x p, (vcl σ τ P)[x]? = some p → σ'.2 0 29 x = some p) ?_ (fun s hs' => OK.so hs'))
  refine OK.itr P (fun i s => s.1 = nI i ∧ FrC σ s.2 ∧ ((List.range i).filter (vaB σ τ)).length ≤ 8 ∧ s.2.1 0 6 6 = nI ((List.range i).filter (vaB σ τ)).length ∧ ∀ x p, ((List.range i).filter (vaB σ τ))[x]? = some p → s.2.2 0 29 x = some p) ⟨rfl, (Fr.refl σ).sx rfl, by simp, rfl, fun x p hx => by simp at hx⟩ (fun i s hi hs' => ?_) (fun s hs' => ?_) (FU_lt (by omega))
  · obtain ⟨i', σ1⟩ := s
    obtain ⟨e1, hf, hl, h66, hr⟩ := hs'
    simp only at e1 hf hl h66 hr ⊢
    subst e1
    have h1 := h.frC hf
    rw [(hf 0 1 2 rfl).1, hp.2.2.1, if_pos (nI_lt hi (show P < 2 ^ 31 by omega)), h66]
    by_cases c : ((List.range i).filter (vaB σ τ)).length < 8
    · have hv : vaB σ1 τ i = vaB σ τ i := by unfold vaB; rw [(hf 1 i 7 rfl).2]
      have hvb := (vac_bI h1.2.2.1 h1.2.2.2.1 hi).1
      rw [hv] at hvb
      have e2 := rf_succ (vaB σ τ) i
      rw [if_pos (show nI ((List.range i).filter (vaB σ τ)).length < 8 from nI_lt (b := 8) c (by decide)), postAt_t h1.2.2.1 hi, obs, oes, hvb, obs, nI_1]
      cases hb : vaB σ τ i with
      | false =>
        rw [hb, if_neg (by decide), List.append_nil] at e2
        rw [if_neg (show ¬ (false = true) by decide), if_pos rfl, obs, e2]
        exact OK.so ⟨rfl, hf, hl, h66, hr⟩
      | true =>
        rw [hb, if_pos rfl] at e2
        rw [if_pos rfl, if_neg (show ¬ (1 : Int32) = 0 by decide), ix_nI c (by decide), obs, lt1_eq, lt1_eq, obs, e2]
        have e66 : (sy σ1 0 29 ((List.range i).filter (vaB σ τ)).length (some i)).1 0 6 6 = nI ((List.range i).filter (vaB σ τ)).length := h66
        rw [e66, nI_1]
        refine OK.so ⟨rfl, (hf.sy rfl).sx rfl, by simp; omega, by simp [sx_1], fun x p hx => ?_⟩
        show (sy σ1 0 29 ((List.range i).filter (vaB σ τ)).length (some i)).2 0 29 x = some p
        rw [sy_2]
        rcases gq_snoc hx with d | ⟨d1, d2⟩
        · have := gq_lt d
          rw [if_neg (fun y => by have := y.2.2; omega)]
          exact hr x p d
        · rw [if_pos ⟨rfl, rfl, d1⟩, d2]
    · rw [if_neg (show ¬ nI ((List.range i).filter (vaB σ τ)).length < 8 from nI_nlt (b := 8) (by omega) (by omega))]
      have e := fin i (by omega) hl (Or.inr (by omega))
      rw [e]
      exact OK.so ⟨hf, h66, hr⟩
  · obtain ⟨i', σ1⟩ := s
    obtain ⟨e1, hf, hl, h66, hr⟩ := hs'
    simp only at e1 hf hl h66 hr ⊢
    subst e1
    rw [(hf 0 1 2 rfl).1, hp.2.2.1, if_neg (nI_nlt (Nat.le_refl P) (show P < 2 ^ 31 by omega))]
    have e := fin P (Nat.le_refl _) hl (Or.inl rfl)
    rw [e]
    exact OK.so ⟨hf, h66, hr⟩
/-- the class's rows -/
def OV (σ τ : St) (P : Nat) (σ' : St) : Prop := FrC σ σ' ∧ σ'.1 0 6 6 = nI (vcl σ τ P).length ∧ ∀ x p, (vcl σ τ P)[x]? = some p → σ'.2 0 29 x = some p
theorem p_vacAt_eq {σ' : St} (hO : OV σ τ P σ') {v : Nat} (hv : v < 8) : p_Offering_vacantAt σ' (nI v) = some (vcl σ τ P)[v]? := by
  have hl := vcl_len σ τ P
  unfold p_Offering_vacantAt
  rw [if_neg (nI_pos (by omega)), hO.2.1]
  by_cases c : v < (vcl σ τ P).length
  · have hx : (vcl σ τ P)[v]? = some (vcl σ τ P)[v] := List.getElem?_eq_getElem c
    rw [if_pos (nI_lt c (by omega)), if_pos (show nI v < 8 from nI_lt (b := 8) hv (by decide)), ix_nI hv (by decide), obs, lt1_eq, hO.2.2 v _ hx, hx]
  · rw [if_neg (nI_nlt (by omega) (by omega)), List.getElem?_eq_none (by omega)]
theorem p_worthTo_eq (h : InvB σ τ U P Q T R L E) {σ' : St} (hO : OV σ τ P σ') {i v : Nat} (hi : i < L) : p_Offering_worthTo σ' (some (lvN τ i)) (vcl σ τ P)[v]? = some (nI (ofw 1000 σ τ P L i v)) := by
  have h' := h.frC hO.1
  obtain ⟨hk, -, -⟩ := lvN_eq h.2.2.2.2.2.2.1 h.2.2.2.1.1 hi
  unfold p_Offering_worthTo ofw
  rw [oes]
  cases hc : (vcl σ τ P)[v]? with
  | none =>
    have : ¬ v < (vcl σ τ P).length := fun c => by rw [List.getElem?_eq_getElem c] at hc; cases hc
    rw [oen, if_neg (fun c => this c.2.1)]
    rfl
  | some p =>
    have hv := gq_lt hc
    have hpp := (vcl_lt hc).1
    rw [oes, vcd_eq hc, (isHere_eq h'.2.2.2.1 hk).1, obs, p_fit_eq h'.2.2.1 h'.2.2.2.1 hk hpp, obs, p_prot_eq h'.1 h'.2.2.2.1 hk, obs]
    by_cases c1 : τ.1 0 14 (lvN τ i) < 0
    · rw [bI_t c1, if_neg (show ¬ (1 : Int32) = 0 by decide)]
      by_cases c2 : fitv τ (lvN τ i) p < 30
      · rw [if_pos c2, if_neg (fun c => c.2.2.2 c2)]; rfl
      · have hcond : i < L ∧ v < (vcl σ τ P).length ∧ τ.1 0 14 (lvN τ i) < 0 ∧ ¬ fitv τ (lvN τ i) p < 30 := ⟨hi, hv, c1, c2⟩
        rw [if_neg c2, if_pos hcond]
        obtain ⟨f, f1, f2, f3⟩ := fit_rg h.2.2.1 h.2.2.2.1 hk hpp c2
        have e1 : nI f + 1000 = nI (f + 1000) := nI_add f 1000
        rw [f3, nI_clamp (by omega), e1]
        by_cases g : τ.1 0 15 (lvN τ i) < τ.1 0 0 0
        · rw [decide_eq_true g, if_pos rfl, if_pos rfl, obs, if_pos g]
          have e2 : nI (f + 1000) + 0 = nI (f + 1000 + 0) := nI_add (f + 1000) 0
          rw [e2]
          congr 2
          omega
        · rw [decide_eq_false g, if_neg (show ¬ (false = true) by decide), if_neg (show ¬ (1 : Int32) = 0 by decide), obs, if_neg g]
          have e2 : nI (f + 1000) + 1000000 = nI (f + 1000 + 1000000) := nI_add (f + 1000) 1000000
          rw [e2]
          congr 2
          omega
    · rw [bI_f c1, if_pos rfl, if_neg (fun c => c1 c.2.2.1)]; rfl
/-- the worths of those ahead of i are there -/
theorem p_gworth_ok (h : InvB σ τ U P Q T R L E) {σ1 : St} {i : Nat} (hi : i < L) (hO : OV σ τ P σ1) (hw : ∀ i' v, i' < i → v < 8 → σ1.1 0 30 (i' * 8 + v) = nI (ofw 1000 σ τ P L i' v)) : OK (p_Offering_gatherWorth σ1 (nI i)) (fun σ' => OV σ τ P σ' ∧ ∀ i' v, i' < i + 1 → v < 8 → σ'.1 0 30 (i' * 8 + v) = nI (ofw 1000 σ τ P L i' v)) := by
  have hl := h.2.2.2.2.2.2.1
  have hL := hl.1
  have e8 : nI i * (8 : Int32) = nI (i * 8) := pk_mul i 8
  unfold p_Offering_gatherWorth
  refine OK.bi (OK.mono (R := fun σ' => OV σ τ P σ' ∧ ∀ i' v, i' < i + 1 → v < 8 → σ'.1 0 30 (i' * 8 + v) = nI (ofw 1000 σ τ P L i' v)) ?_ (fun s hs' => OK.so hs'))
  refine OK.itr 8 (fun v s => s.1 = nI v ∧ OV σ τ P s.2 ∧ (∀ i' v', i' < i → v' < 8 → s.2.1 0 30 (i' * 8 + v') = nI (ofw 1000 σ τ P L i' v')) ∧ ∀ v', v' < v → s.2.1 0 30 (i * 8 + v') = nI (ofw 1000 σ τ P L i v')) ⟨rfl, hO, hw, fun v' hv' => by omega⟩ (fun v s hv hs' => ?_) (fun s hs' => ?_) (FU_lt (by decide))
  · obtain ⟨v', σ2⟩ := s
    obtain ⟨e1, hO2, hw2, hr⟩ := hs'
    simp only at e1 hO2 hw2 hr ⊢
    subst e1
    have h2 := h.frC hO2.1
    have hlv : p_Offering_leaverAt σ2 (nI i) = some (some (lvN τ i)) := by
      rw [leaverAt_eq h2.2.2.2.2.2.2.1 hi, (lvN_eq h2.2.2.2.2.2.2.1 h.2.2.2.1.1 hi).2.1]
    rw [if_pos (show nI v < 8 from nI_lt (b := 8) hv (by decide)), e8, nI_add, if_neg (nI_pos (by omega)), if_pos (show nI (i * 8 + v) < 64 from nI_lt (b := 64) (by omega) (by decide)), hlv, obs, p_vacAt_eq hO2 hv, obs, p_worthTo_eq h hO2 hi, obs, ix_nI (show i * 8 + v < 64 by omega) (by decide), obs, lt1_eq, obs, nI_1]
    refine OK.so ⟨rfl, ⟨hO2.1.sx rfl, hO2.2.1, hO2.2.2⟩, fun i' v' hi' hv' => ?_, fun v' hv' => ?_⟩
    · show (sx σ2 0 30 (i * 8 + v) _).1 0 30 (i' * 8 + v') = _
      rw [sx_1, if_neg (fun y => by have := y.2.2; omega)]
      exact hw2 i' v' hi' hv'
    · show (sx σ2 0 30 (i * 8 + v) _).1 0 30 (i * 8 + v') = _
      rw [sx_1]
      by_cases e : v' = v
      · subst e; rw [if_pos ⟨rfl, rfl, rfl⟩]
      · rw [if_neg (fun y => by have := y.2.2; omega)]
        exact hr v' (by omega)
  · obtain ⟨v', σ2⟩ := s
    obtain ⟨e1, hO2, hw2, hr⟩ := hs'
    simp only at e1 hO2 hw2 hr ⊢
    subst e1
    rw [if_neg (show ¬ nI 8 < 8 by decide)]
    refine OK.so ⟨hO2, fun i' v hi' hv => ?_⟩
    by_cases e : i' = i
    · subst e; exact hr v hv
    · exact hw2 i' v (by omega) hv
end OfferC
