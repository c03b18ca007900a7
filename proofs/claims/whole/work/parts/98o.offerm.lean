/-! ===== offers: the reference ===== -/
def MV (σ τ : St) (P : Nat) (τ' : St) : Prop := FrM τ τ' ∧ τ'.1 0 0 56 = nI (vcl σ τ P).length ∧ ∀ x p, (vcl σ τ P)[x]? = some p → τ'.1 0 37 x = nI p
/-- the reference's table from row i0 on -/
def MT (σ τ : St) (P L : Nat) (i0 : Nat) (τ' : St) : Prop := MV σ τ P τ' ∧ ∀ i t, i0 ≤ i → i ≤ L → t < 2 ^ (vcl σ τ P).length → τ'.1 0 38 (256 * i + t) = nI (dp (ofw 10000 σ τ P L) (vcl σ τ P).length L (L - i) t)
section OfferM
variable {σ τ : St} {U P Q T R L E : Nat}
theorem fitv_fr {τ' : St} (hf : FrM τ τ') (k p : Nat) : fitv τ' k p = fitv τ k p := by
  unfold fitv skl
  simp only [(hf 0 12 k rfl).1, (hf 0 7 p rfl).1, (hf 0 9 k rfl).1, (hf 0 5 _ rfl).1, (hf 0 6 _ rfl).1]
theorem m_worth_eq (h : InvB σ τ U P Q T R L E) {τ' : St} {i v t : Nat} (hi : i < L) (hv : v < (vcl σ τ P).length) (ht : t < 2 ^ (vcl σ τ P).length) (hM : MT σ τ P L (i + 1) τ') : m_worth τ' (nI i) (nI v) (nI t) = some (if okv (ofw 10000 σ τ P L i) t v then nI (ofw 10000 σ τ P L i v + dp (ofw 10000 σ τ P L) (vcl σ τ P).length L (L - (i + 1)) (t ||| 2 ^ v)) else -1) := by
  obtain ⟨⟨hf, m1, m2⟩, m3⟩ := hM
  have hL := h.2.2.2.2.2.2.1.1
  have hQ := h.2.2.2.1.1
  have hV := vcl_len σ τ P
  have hp8 := p8 hV
  have h' := h.frM hf
  obtain ⟨hk, -, hk3⟩ := lvN_eq h.2.2.2.2.2.2.1 hQ hi
  have hx : (vcl σ τ P)[v]? = some (vcl σ τ P)[v] := List.getElem?_eq_getElem hv
  have hvd := vcd_eq hx
  have hpp := (vcl_lt hx).1
  have hor := or_lt ht hv
  have hbit := bitI (m := t) (u := v) (by omega) (by omega)
  have e256 : (256 : Int32) * nI (i + 1) = nI (256 * (i + 1)) := pk_mul 256 (i + 1)
  have hgu := guard_eq h'.2.2.2.1 hk
  rw [(hf 0 15 (lvN τ i) rfl).1, (hf 0 0 0 rfl).1] at hgu
  have hhe := (isHere_eq h'.2.2.2.1 hk).2
  rw [(hf 0 14 (lvN τ i) rfl).1] at hhe
  have hfe := m_fit_eq h'.2.2.1 h'.2.2.2.1 hk hpp
  rw [fitv_fr hf] at hfe
  unfold m_worth okv
  simp only [ix_nI (show i < 8 by omega) (show 8 < 2 ^ 31 by decide), obs, (hf 0 36 i rfl).1, hk3, hhe, ix_nI (show v < 8 by omega) (show 8 < 2 ^ 31 by decide), m2 v _ hx, hfe, hgu]
  cases c2 : t.testBit v with
  | true =>
    rw [if_pos (hbit.mpr c2), Bool.not_true, Bool.and_false]
    rfl
  | false =>
    rw [if_neg (fun e => by rw [hbit.mp e] at c2; cases c2), Bool.not_false, Bool.and_true, shl1 (show v < 31 by omega), nI_or, nI_1, e256, nI_add, ix_nI (show 256 * (i + 1) + (t ||| 2 ^ v) < 2304 by omega) (by decide)]
    simp only [obs, m3 (i + 1) (t ||| 2 ^ v) (Nat.le_refl _) (by omega) hor]
    by_cases c1 : τ.1 0 14 (lvN τ i) < 0
    · rw [bI_t c1, if_neg (show ¬ (1 : Int32) = 0 by decide)]
      by_cases c3 : fitv τ (lvN τ i) (vcl σ τ P)[v] < 30
      · have hw : ofw 10000 σ τ P L i v = 0 := by unfold ofw; rw [hvd, if_neg (fun c => c.2.2.2 c3)]
        rw [if_pos c3, hw]
        rfl
      · have hcond : i < L ∧ v < (vcl σ τ P).length ∧ τ.1 0 14 (lvN τ i) < 0 ∧ ¬ fitv τ (lvN τ i) (vcl σ τ P)[v] < 30 := ⟨hi, hv, c1, c3⟩
        obtain ⟨f, f1, f2, f3⟩ := fit_rg h.2.2.1 h.2.2.2.1 hk hpp c3
        have hw : ofw 10000 σ τ P L i v = (if τ.1 0 15 (lvN τ i) < τ.1 0 0 0 then 0 else 1000000) + 10000 + f := by
          unfold ofw
          rw [hvd, if_pos hcond, f3, nI_clamp (by omega)]
        rw [if_neg c3, f3, hw]
        by_cases g : τ.1 0 15 (lvN τ i) < τ.1 0 0 0
        · rw [decide_eq_true g, if_pos rfl, if_pos rfl, obs, if_pos g, decide_eq_true (show 0 + 10000 + f ≠ 0 by omega), if_pos rfl]
          have e1 : (0 : Int32) + 10000 = nI (0 + 10000) := rfl
          rw [e1, nI_add, nI_add]
        · rw [decide_eq_false g, if_neg (show ¬ (false = true) by decide), if_neg (show ¬ (1 : Int32) = 0 by decide), obs, if_neg g, decide_eq_true (show 1000000 + 10000 + f ≠ 0 by omega), if_pos rfl]
          have e1 : (1000000 : Int32) + 10000 = nI (1000000 + 10000) := nI_add 1000000 10000
          rw [e1, nI_add, nI_add]
    · have hw : ofw 10000 σ τ P L i v = 0 := by unfold ofw; rw [if_neg (fun c => c1 c.2.2.1)]
      rw [bI_f c1, if_pos rfl, hw]
      rfl
theorem m_gvac_ok (h : InvB σ τ U P Q T R L E) {f : St → Option St} {R' : St → Prop} (hf' : ∀ τ', MV σ τ P τ' → OK (f τ') R') : OK (Option.bind (itr0 (S := Int32 × St) (E := St) (fun s2 => (if s2.1 < s2.2.1 0 0 4 then (if s2.2.1 0 0 56 < (8 : Int32) then (Option.bind (m_isVacant s2.2 s2.1) fun r85 => (Option.bind (α := St) ((if r85 = 0 then some s2.2 else (Option.bind (ix 8 (s2.2.1 0 0 56)) fun i90 => (lt1 (sx s2.2 0 37 i90 s2.1) fun σ91 => (lt1 (sx σ91 0 0 56 ((σ91.1 0 0 56) + (1 : Int32))) fun σ92 => some σ92))))) fun t87 => some (.inl (s2.1 + (1 : Int32), t87)))) else some (.inr s2.2)) else some (.inr s2.2))) FU ((0 : Int32), sx τ 0 0 56 (0 : Int32))) f) R' := by
  have hp := h.2.2.1
  have hP := hp.1
  have fin : ∀ i, i ≤ P → ((List.range i).filter (vaB σ τ)).length ≤ 8 → (i = P ∨ ((List.range i).filter (vaB σ τ)).length = 8) → vcl σ τ P = (List.range i).filter (vaB σ τ) := by
    intro i hi hl hd
    unfold vcl
    obtain ⟨r, hr⟩ := rf_pre (vaB σ τ) i hi
    rcases hd with rfl | hd
    · rw [List.take_of_length_le hl]
    · rw [hr, List.take_append_of_le_length (by omega), List.take_of_length_le (by omega)]
  refine OK.bi (OK.mono (R := MV σ τ P) ?_ hf')
  refine OK.itr P (fun i s => s.1 = nI i ∧ FrM τ s.2 ∧ ((List.range i).filter (vaB σ τ)).length ≤ 8 ∧ s.2.1 0 0 56 = nI ((List.range i).filter (vaB σ τ)).length ∧ ∀ x p, ((List.range i).filter (vaB σ τ))[x]? = some p → s.2.1 0 37 x = nI p) ⟨rfl, (Fr.refl τ).sx rfl, by simp, rfl, fun x p hx => by simp at hx⟩ (fun i s hi hs' => ?_) (fun s hs' => ?_) (FU_lt (by omega))
  · obtain ⟨i', τ1⟩ := s
    obtain ⟨e1, hf, hl, h56, hr⟩ := hs'
    simp only at e1 hf hl h56 hr ⊢
    subst e1
    have h1 := h.frM hf
    rw [(hf 0 0 4 rfl).1, hp.2.1, if_pos (nI_lt hi (show P < 2 ^ 31 by omega)), h56]
    by_cases c : ((List.range i).filter (vaB σ τ)).length < 8
    · have hv : vaB σ τ1 i = vaB σ τ i := by unfold vaB; rw [(hf 0 8 i rfl).1]
      have hvb := (vac_bI h1.2.2.1 h1.2.2.2.1 hi).2
      rw [hv] at hvb
      have e2 := rf_succ (vaB σ τ) i
      rw [if_pos (show nI ((List.range i).filter (vaB σ τ)).length < 8 from nI_lt (b := 8) c (by decide)), hvb, obs, nI_1]
      cases hb : vaB σ τ i with
      | false =>
        rw [hb, if_neg (by decide), List.append_nil] at e2
        rw [if_neg (show ¬ (false = true) by decide), if_pos rfl, obs, e2]
        exact OK.so ⟨rfl, hf, hl, h56, hr⟩
      | true =>
        rw [hb, if_pos rfl] at e2
        rw [if_pos rfl, if_neg (show ¬ (1 : Int32) = 0 by decide), ix_nI c (by decide), obs, lt1_eq, lt1_eq, obs, e2]
        have e56 : (sx τ1 0 37 ((List.range i).filter (vaB σ τ)).length (nI i)).1 0 0 56 = nI ((List.range i).filter (vaB σ τ)).length := h56
        rw [e56, nI_1]
        refine OK.so ⟨rfl, (hf.sx rfl).sx rfl, by simp; omega, by simp [sx_1], fun x p hx => ?_⟩
        show (sx τ1 0 37 ((List.range i).filter (vaB σ τ)).length (nI i)).1 0 37 x = nI p
        rw [sx_1]
        rcases gq_snoc hx with d | ⟨d1, d2⟩
        · have := gq_lt d
          rw [if_neg (fun y => by have := y.2.2; omega)]
          exact hr x p d
        · rw [if_pos ⟨rfl, rfl, d1⟩, d2]
    · rw [if_neg (show ¬ nI ((List.range i).filter (vaB σ τ)).length < 8 from nI_nlt (b := 8) (by omega) (by omega))]
      have e := fin i (by omega) hl (Or.inr (by omega))
      unfold MV
      rw [e]
      exact OK.so ⟨hf, h56, hr⟩
  · obtain ⟨i', τ1⟩ := s
    obtain ⟨e1, hf, hl, h56, hr⟩ := hs'
    simp only at e1 hf hl h56 hr ⊢
    subst e1
    rw [(hf 0 0 4 rfl).1, hp.2.1, if_neg (nI_nlt (Nat.le_refl P) (show P < 2 ^ 31 by omega))]
    have e := fin P (Nat.le_refl _) hl (Or.inl rfl)
    unfold MV
    rw [e]
    exact OK.so ⟨hf, h56, hr⟩
set_option maxHeartbeats 1000000 in
theorem m_offers_ok (h : InvB σ τ U P Q T R L E) : OK (m_findOffers τ) (fun τ' => FrM τ τ' ∧ τ'.1 0 38 0 = nI (dp (ofw 10000 σ τ P L) (vcl σ τ P).length L L 0) ∧ ∀ i, i < L → τ'.1 0 39 i = Option.elim (fstB (pkB (ofw 10000 σ τ P L) (vcl σ τ P).length L i (gn (ofw 10000 σ τ P L) (vcl σ τ P).length L i)) (vcl σ τ P).length) (-9) (fun v => nI (vcd σ τ P v))) := by
  have hl := h.2.2.2.2.2.2.1
  have hL := hl.1
  have hV := vcl_len σ τ P
  have hp8 := p8 hV
  have h53 : ∀ τ', FrM τ τ' → τ'.1 0 0 53 = nI L := fun τ' hf => by rw [(hf 0 0 53 rfl).1]; exact hl.2.1
  have e256 : ∀ i, (256 : Int32) * nI i = nI (256 * i) := fun i => pk_mul 256 i
  unfold m_findOffers
  rw [lt1_eq]
  refine m_gvac_ok h (fun τ1 hM1 => ?_)
  -- the last row: nothing to come
  refine OK.bi (OK.mono (R := MT σ τ P L L) ?_ ?_)
  · refine OK.itr 256 (fun t s => s.1 = nI t ∧ MV σ τ P s.2 ∧ ∀ t', t' < t → s.2.1 0 38 (256 * L + t') = 0) ⟨rfl, hM1, fun t' ht' => by omega⟩ (fun t s ht hs' => ?_) (fun s hs' => ?_) (FU_lt (by decide))
    · obtain ⟨t', τ2⟩ := s
      obtain ⟨e1, hM2, hr⟩ := hs'
      simp only at e1 hM2 hr ⊢
      subst e1
      rw [if_pos (show nI t < 256 from nI_lt (b := 256) ht (by decide)), h53 τ2 hM2.1, e256, nI_add, ix_nI (show 256 * L + t < 2304 by omega) (by decide), obs, lt1_eq, nI_1]
      refine OK.so ⟨rfl, ⟨hM2.1.sx rfl, hM2.2.1, hM2.2.2⟩, fun t' ht' => ?_⟩
      show (sx τ2 0 38 (256 * L + t) 0).1 0 38 (256 * L + t') = 0
      rw [sx_1]
      by_cases e : t' = t
      · subst e; rw [if_pos ⟨rfl, rfl, rfl⟩]
      · rw [if_neg (fun y => by have := y.2.2; omega)]
        exact hr t' (by omega)
    · obtain ⟨t', τ2⟩ := s
      obtain ⟨e1, hM2, hr⟩ := hs'
      simp only at e1 hM2 hr ⊢
      subst e1
      rw [if_neg (show ¬ nI 256 < 256 by decide)]
      refine OK.so ⟨hM2, fun i t h1 h2 h3 => ?_⟩
      have : i = L := by omega
      subst this
      rw [hr t (by omega), Nat.sub_self]
      rfl
  · intro τ2 hM2
    rw [h53 τ2 hM2.1.1]
    refine OK.bi (OK.mono (R := MT σ τ P L 0) ?_ ?_)
    · refine OK.itr L (fun j s => s.1 = nI (L - j) - 1 ∧ MT σ τ P L (L - j) s.2) ⟨rfl, hM2⟩ (fun j s hj hs' => ?_) (fun s hs' => ?_) (FU_lt (by omega))
      · obtain ⟨i', τ3⟩ := s
        obtain ⟨e1, hM3⟩ := hs'
        simp only at e1 hM3 ⊢
        obtain ⟨i, hi⟩ : ∃ i, L - j = i + 1 := ⟨L - j - 1, by omega⟩
        have hi' : L - (j + 1) = i := by omega
        rw [hi, nI_pred] at e1
        rw [hi] at hM3
        subst e1
        have hn : L - i = j + 1 := by omega
        have hn1 : L - (i + 1) = j := by omega
        have hn2 : L - (j + 1) = i := by omega
        rw [if_neg (nI_pos (by omega)), hi']
        refine OK.bi (OK.mono (R := MT σ τ P L i) ?_ (fun s hs' => ?_))
        · refine OK.itr (2 ^ (vcl σ τ P).length) (fun t s => s.1 = nI t ∧ MT σ τ P L (i + 1) s.2 ∧ ∀ t', t' < t → s.2.1 0 38 (256 * i + t') = nI (dp (ofw 10000 σ τ P L) (vcl σ τ P).length L (L - i) t')) ⟨rfl, hM3, fun t' ht' => by omega⟩ (fun t s ht hs' => ?_) (fun s hs' => ?_) (FU_lt (by omega))
          · obtain ⟨t', τ4⟩ := s
            obtain ⟨e1, hM4, hr⟩ := hs'
            simp only at e1 hM4 hr ⊢
            subst e1
            have hdp : dp (ofw 10000 σ τ P L) (vcl σ τ P).length L (L - i) t = mxf (dp (ofw 10000 σ τ P L) (vcl σ τ P).length L j) (ofw 10000 σ τ P L i) t (vcl σ τ P).length := by
              rw [hn]
              show mxf (dp (ofw 10000 σ τ P L) (vcl σ τ P).length L j) (ofw 10000 σ τ P L (L - (j + 1))) t (vcl σ τ P).length = _
              rw [hn2]
            have hloop : itr0 (S := Int32 × Int32) (E := Int32) (fun s66 => (if s66.2 < nI (vcl σ τ P).length then (Option.bind (m_worth τ4 (nI i) s66.2 (nI t)) fun r76 => (Option.bind (α := Int32) ((if s66.1 < r76 then (Option.bind (m_worth τ4 (nI i) s66.2 (nI t)) fun r81 => some r81) else some s66.1)) fun t78 => some (.inl (t78, s66.2 + (1 : Int32))))) else some (.inr s66.1))) FU (nI (dp (ofw 10000 σ τ P L) (vcl σ τ P).length L j t), (0 : Int32)) = some (nI (mxf (dp (ofw 10000 σ τ P L) (vcl σ τ P).length L j) (ofw 10000 σ τ P L i) t (vcl σ τ P).length)) := by
              refine itr_eq (vcl σ τ P).length (fun v => (nI (mxf (dp (ofw 10000 σ τ P L) (vcl σ τ P).length L j) (ofw 10000 σ τ P L i) t v), nI v)) _ rfl (fun v hv => ?_) ?_ (FU_lt (by omega))
              · have hm := (mxf_le h (show j + 1 ≤ 8 by omega) (vcl σ τ P).length i t v).2
                simp only [if_pos (nI_lt hv (show (vcl σ τ P).length < 2 ^ 31 by omega)), nI_1]
                rw [m_worth_eq h (show i < L by omega) hv ht hM4, obs, hn1]
                have e : mxf (dp (ofw 10000 σ τ P L) (vcl σ τ P).length L j) (ofw 10000 σ τ P L i) t (v + 1) = if okv (ofw 10000 σ τ P L i) t v && decide (mxf (dp (ofw 10000 σ τ P L) (vcl σ τ P).length L j) (ofw 10000 σ τ P L i) t v < ofw 10000 σ τ P L i v + dp (ofw 10000 σ τ P L) (vcl σ τ P).length L j (t ||| 2 ^ v)) then ofw 10000 σ τ P L i v + dp (ofw 10000 σ τ P L) (vcl σ τ P).length L j (t ||| 2 ^ v) else mxf (dp (ofw 10000 σ τ P L) (vcl σ τ P).length L j) (ofw 10000 σ τ P L i) t v := rfl
                rw [e]
                have hwl : ofw 10000 σ τ P L i v ≤ 2000000 := by
                  rcases ofw_WR h i v with ⟨-, h1⟩ | ⟨p, f, k1, k2, k3, -, h1⟩ <;> omega
                have hdl := (dp_le h (show j ≤ 8 by omega) (vcl σ τ P).length (t ||| 2 ^ v)).2
                cases okv (ofw 10000 σ τ P L i) t v with
                | false =>
                  rw [if_neg (show ¬ (false = true) by decide), Bool.false_and, if_neg (show ¬ (false = true) by decide), if_neg (fun x => by
                    rw [i_lt, nI_toInt (by omega)] at x
                    have : (-1 : Int32).toInt = -1 := rfl
                    omega), obs]
                | true =>
                  rw [if_pos rfl, Bool.true_and, obs]
                  by_cases cc : mxf (dp (ofw 10000 σ τ P L) (vcl σ τ P).length L j) (ofw 10000 σ τ P L i) t v < ofw 10000 σ τ P L i v + dp (ofw 10000 σ τ P L) (vcl σ τ P).length L j (t ||| 2 ^ v)
                  · rw [if_pos (nI_lt cc (by omega)), decide_eq_true cc, if_pos rfl, obs]
                  · rw [if_neg (nI_nlt (by omega) (by omega)), decide_eq_false cc, if_neg (show ¬ (false = true) by decide), obs]
              · simp only [if_neg (nI_nlt (Nat.le_refl _) (show (vcl σ τ P).length < 2 ^ 31 by omega))]
            rw [hM4.1.2.1, shl1 (show (vcl σ τ P).length < 31 by omega), if_pos (nI_lt ht (by omega)), nI_1, e256, nI_add, ix_nI (show 256 * (i + 1) + t < 2304 by omega) (by decide), obs, hM4.2 (i + 1) t (Nat.le_refl _) (by omega) ht, hn1, hloop, obs, e256, nI_add, ix_nI (show 256 * i + t < 2304 by omega) (by decide), obs, lt1_eq, nI_1]
            refine OK.so ⟨rfl, ⟨⟨hM4.1.1.sx rfl, hM4.1.2.1, hM4.1.2.2⟩, fun i' t' h1 h2 h3 => ?_⟩, fun t' ht' => ?_⟩
            · show (sx τ4 0 38 (256 * i + t) _).1 0 38 (256 * i' + t') = _
              rw [sx_1, if_neg (fun y => by have := y.2.2; omega)]
              exact hM4.2 i' t' h1 h2 h3
            · show (sx τ4 0 38 (256 * i + t) _).1 0 38 (256 * i + t') = _
              rw [sx_1]
              by_cases e : t' = t
              · subst e; rw [if_pos ⟨rfl, rfl, rfl⟩, hdp]
              · rw [if_neg (fun y => by have := y.2.2; omega)]
                exact hr t' (by omega)
          · obtain ⟨t', τ4⟩ := s
            obtain ⟨e1, hM4, hr⟩ := hs'
            simp only at e1 hM4 hr ⊢
            subst e1
            rw [hM4.1.2.1, shl1 (show (vcl σ τ P).length < 31 by omega), if_neg (nI_nlt (Nat.le_refl _) (by omega))]
            refine OK.so ⟨hM4.1, fun i' t h1 h2 h3 => ?_⟩
            by_cases e : i' = i
            · subst e; exact hr t h3
            · exact hM4.2 i' t (by omega) h2 h3
        · have em : nI i + (-1) = nI i - 1 := by grind
          rw [em]
          exact OK.so ⟨rfl, hs'⟩
      · obtain ⟨i', τ3⟩ := s
        obtain ⟨e1, hM3⟩ := hs'
        simp only at e1 hM3 ⊢
        rw [Nat.sub_self] at e1 hM3
        rw [e1, if_pos (show nI 0 - 1 < 0 by decide)]
        exact OK.so hM3
    · intro τ3 hM3
      refine OK.bi (OK.mono (R := fun τ' => FrM τ τ' ∧ τ'.1 0 38 0 = nI (dp (ofw 10000 σ τ P L) (vcl σ τ P).length L L 0) ∧ ∀ i, i < L → τ'.1 0 39 i = Option.elim (fstB (pkB (ofw 10000 σ τ P L) (vcl σ τ P).length L i (gn (ofw 10000 σ τ P L) (vcl σ τ P).length L i)) (vcl σ τ P).length) (-9) (fun v => nI (vcd σ τ P v))) ?_ (fun s hs' => OK.so hs'))
      refine OK.itr L (fun i s => s.1 = nI (gn (ofw 10000 σ τ P L) (vcl σ τ P).length L i) ∧ s.2.1 = nI i ∧ MT σ τ P L 0 s.2.2 ∧ ∀ i', i' < i → s.2.2.1 0 39 i' = Option.elim (fstB (pkB (ofw 10000 σ τ P L) (vcl σ τ P).length L i' (gn (ofw 10000 σ τ P L) (vcl σ τ P).length L i')) (vcl σ τ P).length) (-9) (fun v => nI (vcd σ τ P v))) ⟨rfl, rfl, hM3, fun i' hi' => by omega⟩ (fun i s hi hs' => ?_) (fun s hs' => ?_) (FU_lt (by omega))
      · obtain ⟨g', i', τ4⟩ := s
        obtain ⟨e0, e1, hM4, hr⟩ := hs'
        simp only at e0 e1 hM4 hr ⊢
        subst e0
        subst e1
        obtain ⟨g1, g2⟩ := gn_ok (w := ofw 10000 σ τ P L) (L := L) hV i
        have hgs : gn (ofw 10000 σ τ P L) (vcl σ τ P).length L (i + 1) = Option.elim (fstB (pkB (ofw 10000 σ τ P L) (vcl σ τ P).length L i (gn (ofw 10000 σ τ P L) (vcl σ τ P).length L i)) (vcl σ τ P).length) (gn (ofw 10000 σ τ P L) (vcl σ τ P).length L i) (fun v => gn (ofw 10000 σ τ P L) (vcl σ τ P).length L i ||| 2 ^ v) := rfl
        rw [hgs]
        generalize hgg : gn (ofw 10000 σ τ P L) (vcl σ τ P).length L i = t at *
        have hM4' : MT σ τ P L (i + 1) τ4 := ⟨hM4.1, fun i' t' h1 h2 h3 => hM4.2 i' t' (Nat.zero_le _) h2 h3⟩
        have hdl := (dp_le h (show L - i ≤ 8 by omega) (vcl σ τ P).length t).2
        have hst : ∀ v, v < (vcl σ τ P).length → ∀ fd : Int32, (Option.bind (m_worth τ4 (nI i) (nI v) (nI t)) fun r51 => (Option.bind (ix 2304 (((256 : Int32) * nI i) + nI t)) fun i53 => (Option.bind (α := Int32) ((if r51 = τ4.1 0 38 i53 then some (nI v) else some fd)) fun t54 => some (Sum.inl (β := Int32) (t54, nI v + (-1 : Int32)))))) = some (Sum.inl ((if pkB (ofw 10000 σ τ P L) (vcl σ τ P).length L i t v then nI v else fd), nI v + (-1))) := by
          intro v hv fd
          have hwl : ofw 10000 σ τ P L i v ≤ 2000000 := by
            rcases ofw_WR h i v with ⟨-, h1⟩ | ⟨p, f, k1, k2, k3, -, h1⟩ <;> omega
          have hdl2 := (dp_le h (show L - (i + 1) ≤ 8 by omega) (vcl σ τ P).length (t ||| 2 ^ v)).2
          rw [m_worth_eq h hi hv g1 hM4', obs, e256, nI_add, ix_nI (show 256 * i + t < 2304 by omega) (by decide), obs, hM4.2 i t (Nat.zero_le _) (by omega) g1]
          unfold pkB
          cases okv (ofw 10000 σ τ P L i) t v with
          | false => rw [if_neg (show ¬ (false = true) by decide), if_neg (fun x => nI_m1 (by omega) x.symm)]; rfl
          | true =>
            rw [if_pos rfl, Bool.true_and]
            by_cases cc : ofw 10000 σ τ P L i v + dp (ofw 10000 σ τ P L) (vcl σ τ P).length L (L - (i + 1)) (t ||| 2 ^ v) = dp (ofw 10000 σ τ P L) (vcl σ τ P).length L (L - i) t
            · rw [if_pos (by rw [cc]), decide_eq_true cc]; rfl
            · rw [if_neg (fun x => cc (nI_inj (by omega) (by omega) x)), decide_eq_false cc]; rfl
        have hpick : OK (itr0 (S := Int32 × Int32) (E := Int32) (fun s34 => (if s34.2 < 0 then some (.inr s34.1) else (Option.bind (m_worth τ4 (nI i) s34.2 (nI t)) fun r51 => (Option.bind (ix 2304 (((256 : Int32) * nI i) + nI t)) fun i53 => (Option.bind (α := Int32) ((if r51 = τ4.1 0 38 i53 then some s34.2 else some s34.1)) fun t54 => some (.inl (t54, s34.2 + (-1 : Int32)))))))) FU ((-1 : Int32), nI (vcl σ τ P).length - (1 : Int32))) (fun e => e = oI (fstB (pkB (ofw 10000 σ τ P L) (vcl σ τ P).length L i t) (vcl σ τ P).length)) := by
          refine OK.itr (vcl σ τ P).length (fun n s => s.2 = nI ((vcl σ τ P).length - n) - 1 ∧ ((s.1 = -1 ∧ ∀ y, (vcl σ τ P).length - n ≤ y → y < (vcl σ τ P).length → pkB (ofw 10000 σ τ P L) (vcl σ τ P).length L i t y = false) ∨ (∃ x, (vcl σ τ P).length - n ≤ x ∧ x < (vcl σ τ P).length ∧ s.1 = nI x ∧ pkB (ofw 10000 σ τ P L) (vcl σ τ P).length L i t x = true ∧ ∀ y, (vcl σ τ P).length - n ≤ y → y < x → pkB (ofw 10000 σ τ P L) (vcl σ τ P).length L i t y = false))) ⟨rfl, Or.inl ⟨rfl, fun y h1 h2 => by omega⟩⟩ (fun n s hn hs' => ?_) (fun s hs' => ?_) (FU_lt (by omega))
          · obtain ⟨fd, v'⟩ := s
            obtain ⟨e1, hd⟩ := hs'
            simp only at e1 hd ⊢
            obtain ⟨v, hv⟩ : ∃ v, (vcl σ τ P).length - n = v + 1 := ⟨(vcl σ τ P).length - n - 1, by omega⟩
            have hv' : (vcl σ τ P).length - (n + 1) = v := by omega
            rw [hv, nI_pred] at e1
            rw [hv] at hd
            subst e1
            have em : nI v + (-1) = nI v - 1 := by grind
            rw [if_neg (nI_pos (by omega)), hst v (by omega) fd, em, hv']
            cases hp : pkB (ofw 10000 σ τ P L) (vcl σ τ P).length L i t v with
            | true =>
              refine OK.so ⟨rfl, Or.inr ⟨v, Nat.le_refl _, by omega, rfl, hp, fun y h1 h2 => by omega⟩⟩
            | false =>
              refine OK.so ⟨rfl, ?_⟩
              rcases hd with ⟨f1, f2⟩ | ⟨x, x1, x2, x3, x4, x5⟩
              · refine Or.inl ⟨f1, fun y h1 h2 => ?_⟩
                by_cases e : y = v
                · subst e; exact hp
                · exact f2 y (by omega) h2
              · refine Or.inr ⟨x, by omega, x2, x3, x4, fun y h1 h2 => ?_⟩
                by_cases e : y = v
                · subst e; exact hp
                · exact x5 y (by omega) h2
          · obtain ⟨fd, v'⟩ := s
            obtain ⟨e1, hd⟩ := hs'
            simp only at e1 hd ⊢
            rw [Nat.sub_self] at e1 hd
            rw [e1, if_pos (show nI 0 - 1 < 0 by decide)]
            refine OK.so ?_
            show fd = _
            cases hc : fstB (pkB (ofw 10000 σ τ P L) (vcl σ τ P).length L i t) (vcl σ τ P).length with
            | none =>
              rcases hd with ⟨f1, f2⟩ | ⟨x, x1, x2, x3, x4, x5⟩
              · exact f1
              · rw [fstB_some.fstB_none hc x x2] at x4; cases x4
            | some z =>
              obtain ⟨z1, z2, z3⟩ := fstB_some hc
              rcases hd with ⟨f1, f2⟩ | ⟨x, x1, x2, x3, x4, x5⟩
              · rw [f2 z (Nat.zero_le _) z1] at z2; cases z2
              · have : x = z := by
                  rcases Nat.lt_trichotomy x z with q | q | q
                  · rw [z3 x q] at x4; cases x4
                  · exact q
                  · rw [x5 z (Nat.zero_le _) q] at z2; cases z2
                rw [x3, this]
                rfl
        obtain ⟨e, y1, y2⟩ := hpick
        rw [h53 _ hM4.1.1, if_pos (nI_lt hi (by omega)), hM4.1.2.1, y1, obs, y2, ix_nI (show i < 8 by omega) (by decide)]
        have wr : ∀ (o : Int32), o = Option.elim (fstB (pkB (ofw 10000 σ τ P L) (vcl σ τ P).length L i t) (vcl σ τ P).length) (-9) (fun v => nI (vcd σ τ P v)) → MT σ τ P L 0 (sx τ4 0 39 i o) ∧ ∀ i', i' < i + 1 → (sx τ4 0 39 i o).1 0 39 i' = Option.elim (fstB (pkB (ofw 10000 σ τ P L) (vcl σ τ P).length L i' (gn (ofw 10000 σ τ P L) (vcl σ τ P).length L i')) (vcl σ τ P).length) (-9) (fun v => nI (vcd σ τ P v)) := by
          intro o ho
          refine ⟨⟨⟨hM4.1.1.sx rfl, hM4.1.2.1, hM4.1.2.2⟩, hM4.2⟩, fun i' hi' => ?_⟩
          rw [sx_1]
          by_cases e : i' = i
          · subst e; rw [if_pos ⟨rfl, rfl, rfl⟩, ho, hgg]
          · rw [if_neg (fun y => e y.2.2)]
            exact hr i' (by omega)
        cases hc : fstB (pkB (ofw 10000 σ τ P L) (vcl σ τ P).length L i t) (vcl σ τ P).length with
        | none =>
          rw [hc] at wr
          obtain ⟨q1, q2⟩ := wr (-9) rfl
          rw [oI_none, if_pos (show (-1 : Int32) < 0 by decide), obs, obs, lt1_eq, if_pos (show (-1 : Int32) < 0 by decide), obs, nI_1, oen]
          refine OK.so ⟨?_, rfl, q1, q2⟩
          show nI t ||| 0 = nI t
          have := nI_or t 0
          rw [Nat.or_zero] at this
          exact this
        | some v =>
          rw [hc] at wr
          have hv := (fstB_some hc).1
          have hx : (vcl σ τ P)[v]? = some (vcl σ τ P)[v] := List.getElem?_eq_getElem hv
          obtain ⟨q1, q2⟩ := wr (nI (vcd σ τ P v)) rfl
          have e37 : τ4.1 0 37 v = nI (vcd σ τ P v) := by rw [vcd_eq hx]; exact hM4.1.2.2 v _ hx
          have hn : ¬ oI (some v) < 0 := nI_pos (show v < 2 ^ 31 by omega)
          rw [if_neg hn, if_neg hn, oI_some, ix_nI (show v < 8 by omega) (by decide), obs, obs, obs, lt1_eq, obs, e37, shl1 (show v < 31 by omega), nI_or, nI_1, oes]
          exact OK.so ⟨rfl, rfl, q1, q2⟩
      · obtain ⟨g', i', τ4⟩ := s
        obtain ⟨e0, e1, hM4, hr⟩ := hs'
        simp only at e0 e1 hM4 hr ⊢
        subst e1
        rw [h53 _ hM4.1.1, if_neg (nI_nlt (Nat.le_refl _) (by omega))]
        have h00 : τ4.1 0 38 0 = nI (dp (ofw 10000 σ τ P L) (vcl σ τ P).length L L 0) := hM4.2 0 0 (Nat.le_refl _) (Nat.zero_le _) (Nat.two_pow_pos _)
        exact OK.so ⟨hM4.1.1, h00, hr⟩
end OfferM
