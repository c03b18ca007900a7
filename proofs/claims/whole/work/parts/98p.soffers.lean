/-! ===== offers, offered ===== -/
theorem pkB_eq {w1 w2 : Nat → Nat → Nat} (hw : WR w1 w2) {V L i : Nat} (hL : L ≤ 8) (hi : i < L) (t v : Nat) : pkB w1 V L i t v = pkB w2 V L i t v := by
  unfold pkB
  rw [okv_eq hw i t v]
  cases ho : okv (w2 i) t v with
  | false => rfl
  | true =>
    rw [Bool.true_and, Bool.true_and, decide_eq_decide]
    have hne : w1 i v ≠ 0 := by
      rw [← okv_eq hw i t v] at ho
      unfold okv at ho
      rw [Bool.and_eq_true, decide_eq_true_iff] at ho
      exact ho.1
    obtain ⟨n, hn⟩ : ∃ n, L - i = n + 1 := ⟨L - i - 1, by omega⟩
    have hn1 : L - (i + 1) = n := by omega
    rw [hn, hn1]
    have hcand : TR (n + 1) (w1 i v + dp w1 V L n (t ||| 2 ^ v)) (w2 i v + dp w2 V L n (t ||| 2 ^ v)) := by
      rcases hw i v with ⟨h1, -⟩ | h
      · exact absurd h1 hne
      · exact (dp_TR hw V L n (by omega) _).add h
    exact (TR_cmp (show n + 1 ≤ 8 by omega) hcand (dp_TR hw V L (n + 1) (by omega) t)).2
theorem gn_eq {w1 w2 : Nat → Nat → Nat} (hw : WR w1 w2) {V L : Nat} (hL : L ≤ 8) : ∀ i, i ≤ L → gn w1 V L i = gn w2 V L i
  | 0, _ => rfl
  | i + 1, h => by
    have ih := gn_eq hw (V := V) hL i (by omega)
    show Option.elim (fstB (pkB w1 V L i (gn w1 V L i)) V) (gn w1 V L i) (fun v => gn w1 V L i ||| 2 ^ v) = Option.elim (fstB (pkB w2 V L i (gn w2 V L i)) V) (gn w2 V L i) (fun v => gn w2 V L i ||| 2 ^ v)
    have e : pkB w1 V L i (gn w1 V L i) = pkB w2 V L i (gn w2 V L i) := by
      funext v
      rw [ih]
      exact pkB_eq hw hL (by omega) _ v
    rw [e, ih]
section SOffers
variable {σ τ : St} {U P Q T R L E : Nat}
/-- both -/
theorem offers_both (h : InvB σ τ U P Q T R L E) : ∃ (σ' τ' : St) (p c f : Nat) (o : Nat → Option Nat), p_Offering_settle σ = some σ' ∧ m_findOffers τ = some τ' ∧ FrC σ σ' ∧ FrM τ τ' ∧ p ≤ 8 ∧ c ≤ 8 ∧ f ≤ 800 ∧ σ'.1 0 31 0 = nI (1000000 * p + 1000 * c + f) ∧ τ'.1 0 38 0 = nI (1000000 * p + 10000 * c + f) ∧ ∀ i, i < L → (∀ x, o i = some x → x < P) ∧ σ'.2 0 32 i = o i ∧ τ'.1 0 39 i = Option.elim (o i) (-9) nI := by
  have hL := h.2.2.2.2.2.2.1.1
  obtain ⟨σ', a1, a2, a3, a4⟩ := p_settle_ok h
  obtain ⟨τ', b1, b2, b3, b4⟩ := m_offers_ok h
  have hw := ofw_WR h
  obtain ⟨p, c, f, h1, h2, h3, h4, h5⟩ := dp_TR hw (vcl σ τ P).length L L hL 0
  refine ⟨σ', τ', p, c, f, fun i => Option.map (vcd σ τ P) (fstB (pkB (ofw 1000 σ τ P L) (vcl σ τ P).length L i (gn (ofw 1000 σ τ P L) (vcl σ τ P).length L i)) (vcl σ τ P).length), a1, b1, a2, b2, by omega, by omega, by omega, by rw [a3, h4], by rw [b3, h5], fun i hi => ⟨fun x hx => ?_, a4 i hi, ?_⟩⟩
  · have hx : Option.map (vcd σ τ P) (fstB (pkB (ofw 1000 σ τ P L) (vcl σ τ P).length L i (gn (ofw 1000 σ τ P L) (vcl σ τ P).length L i)) (vcl σ τ P).length) = some x := hx
    cases hc : fstB (pkB (ofw 1000 σ τ P L) (vcl σ τ P).length L i (gn (ofw 1000 σ τ P L) (vcl σ τ P).length L i)) (vcl σ τ P).length with
    | none => rw [hc] at hx; cases hx
    | some v =>
      rw [hc] at hx
      cases hx
      have hv := (fstB_some hc).1
      have hx : (vcl σ τ P)[v]? = some (vcl σ τ P)[v] := List.getElem?_eq_getElem hv
      rw [vcd_eq hx]
      exact (vcl_lt hx).1
  · have e : pkB (ofw 10000 σ τ P L) (vcl σ τ P).length L i (gn (ofw 10000 σ τ P L) (vcl σ τ P).length L i) = pkB (ofw 1000 σ τ P L) (vcl σ τ P).length L i (gn (ofw 1000 σ τ P L) (vcl σ τ P).length L i) := by
      funext v
      rw [← gn_eq hw hL i (by omega)]
      exact (pkB_eq hw hL hi _ v).symm
    rw [b4 i hi, e]
    show Option.elim (fstB (pkB (ofw 1000 σ τ P L) (vcl σ τ P).length L i (gn (ofw 1000 σ τ P L) (vcl σ τ P).length L i)) (vcl σ τ P).length) (-9) (fun v => nI (vcd σ τ P v)) = Option.elim (Option.map (vcd σ τ P) (fstB (pkB (ofw 1000 σ τ P L) (vcl σ τ P).length L i (gn (ofw 1000 σ τ P L) (vcl σ τ P).length L i)) (vcl σ τ P).length)) (-9) nI
    cases fstB (pkB (ofw 1000 σ τ P L) (vcl σ τ P).length L i (gn (ofw 1000 σ τ P L) (vcl σ τ P).length L i)) (vcl σ τ P).length <;> rfl
end SOffers
theorem s_offers : S_offers Inv := by
  intro σ τ N a1 hI
  obtain ⟨U, L, E, h⟩ := id hI
  unfold p_PE_offers m_offers
  rcases in_or a1 (n := 3) (by decide) with ⟨w, hw, rfl⟩ | ⟨hno, -⟩
  · obtain ⟨σ', τ', p, c, f, o, a1, b1, a2, b2, hp, hc, hf, v1, v2, -⟩ := offers_both h
    have hfin := hI.fr a2 b2
    have hbf : p_Offering_bestFrom σ' 0 0 = some (nI (1000000 * p + 1000 * c + f)) := by
      have := p_bestFrom_eq (σ' := σ') (i := 0) (t := 0) (by decide) (by decide)
      rw [← v1]
      exact this
    rw [inl_t 2 (c := 2) rfl (by omega) (by decide), obs, if_neg (show ¬ (1 : Int32) = 0 by decide), if_neg (nI_pos (by omega)), if_neg (show ¬ (2 : Int32) < nI w from nI_nlt (a := 2) (by omega) (by decide)), a1, b1, obs, obs, show ix 2304 (0 : Int32) = some 0 from rfl, obs, v2]
    unfold p_Offering_total
    rw [hbf, obs]
    have k1 : nI (1000000 * p + 1000 * c + f) / 1000000 = nI p := by
      have := pk_div (a := 1000000 * p + 1000 * c + f) (d := 1000000) (by omega) (by decide) (by decide)
      rw [show (1000000 * p + 1000 * c + f) / 1000000 = p by omega] at this
      exact this
    have k2 : nI (1000000 * p + 1000 * c + f) - nI (1000000 * p + 1000 * c + f) / 1000000 * 1000000 = nI (1000 * c + f) := by
      have := pk_rem (a := 1000000 * p + 1000 * c + f) (d := 1000000) (by omega) (by decide) (by decide)
      rw [show (1000000 * p + 1000 * c + f) % 1000000 = 1000 * c + f by omega] at this
      exact this
    have k3 : nI (1000 * c + f) / 1000 = nI c := by
      have := pk_div (a := 1000 * c + f) (d := 1000) (by omega) (by decide) (by decide)
      rw [show (1000 * c + f) / 1000 = c by omega] at this
      exact this
    have k4 : nI (1000000 * p + 1000 * c + f) - nI (1000000 * p + 1000 * c + f) / 1000 * 1000 = nI f := by
      have := pk_rem (a := 1000000 * p + 1000 * c + f) (d := 1000) (by omega) (by decide) (by decide)
      rw [show (1000000 * p + 1000 * c + f) % 1000 = f by omega] at this
      exact this
    have r1 : nI (1000000 * p + 10000 * c + f) / 1000000 = nI p := by
      have := pk_div (a := 1000000 * p + 10000 * c + f) (d := 1000000) (by omega) (by decide) (by decide)
      rw [show (1000000 * p + 10000 * c + f) / 1000000 = p by omega] at this
      exact this
    have r2 : nI (1000000 * p + 10000 * c + f) / 10000 = nI (100 * p + c) := by
      have := pk_div (a := 1000000 * p + 10000 * c + f) (d := 10000) (by omega) (by decide) (by decide)
      rw [show (1000000 * p + 10000 * c + f) / 10000 = 100 * p + c by omega] at this
      exact this
    have r3 : nI (100 * p + c) - nI (100 * p + c) / 100 * 100 = nI c := by
      have := pk_rem (a := 100 * p + c) (d := 100) (by omega) (by decide) (by decide)
      rw [show (100 * p + c) % 100 = c by omega] at this
      exact this
    have r4 : nI (1000000 * p + 10000 * c + f) - nI (1000000 * p + 10000 * c + f) / 10000 * 10000 = nI f := by
      have := pk_rem (a := 1000000 * p + 10000 * c + f) (d := 10000) (by omega) (by decide) (by decide)
      rw [show (1000000 * p + 10000 * c + f) % 10000 = f by omega] at this
      exact this
    rw [k4, k2, k3, k1, r4, r2, r3, r1]
    rcases (show w = 0 ∨ w = 1 ∨ w = 2 by omega) with rfl | rfl | rfl
    · rw [if_pos (show nI 0 = 0 from rfl), if_pos (show nI 0 = 0 from rfl), obs]
      exact ⟨nI p, σ', τ', rfl, rfl, hfin⟩
    · rw [if_neg (show ¬ nI 1 = 0 by decide), if_neg (show ¬ nI 1 = 0 by decide), if_pos (show nI 1 = 1 from rfl), if_pos (show nI 1 = 1 from rfl), obs]
      exact ⟨nI c, σ', τ', rfl, rfl, hfin⟩
    · rw [if_neg (show ¬ nI 2 = 0 by decide), if_neg (show ¬ nI 2 = 0 by decide), if_neg (show ¬ nI 2 = 1 by decide), if_neg (show ¬ nI 2 = 1 by decide), obs]
      exact ⟨nI f, σ', τ', rfl, rfl, hfin⟩
  · rw [inl_f 2 (c := 2) rfl (by decide) (fun k hk => hno k (by omega)), obs, if_pos rfl, m_r2, obs]
    by_cases h1 : a1 < 0
    · rw [if_pos h1, p_r2, obs]
      exact ⟨-2, rfC σ 2, rfM τ 2, rfl, rfl, inv_rf hI 2⟩
    · have h3 := out_lt (by decide) hno h1
      have h4 : (2 : Int32) < a1 := by
        rw [i_le] at h3
        rw [i_lt]
        have e1 : (nI 3).toInt = 3 := rfl
        have e2 : (2 : Int32).toInt = 2 := rfl
        omega
      rw [if_neg h1, if_pos h4, p_r2, obs]
      exact ⟨-2, rfC σ 2, rfM τ 2, rfl, rfl, inv_rf hI 2⟩
theorem s_offered : S_offered Inv := by
  intro σ τ N a1 hI
  obtain ⟨U, L, E, h⟩ := id hI
  have hl := h.2.2.2.2.2.2.1
  have hL := hl.1
  unfold p_PE_offered m_offered
  rw [hl.2.1, hl.2.2.1]
  rcases in_or a1 (n := L) (by omega) with ⟨i, hi, rfl⟩ | ⟨hno, -⟩
  · obtain ⟨σ', τ', p, c, f, o, a1, b1, a2, b2, hp, hc, hf, v1, v2, v3⟩ := offers_both h
    obtain ⟨w1, w2, w3⟩ := v3 i hi
    have hfin := hI.fr a2 b2
    have h67 : σ'.1 0 6 7 = nI L := by rw [(a2 0 6 7 rfl).1]; exact hl.2.2.1
    rw [in0_t hi (by omega), obs, if_neg (show ¬ (1 : Int32) = 0 by decide), if_neg (nI_pos (show i < 2 ^ 31 by omega)), if_pos (nI_lt hi (by omega)), a1, b1, obs, obs, ix_nI (show i < 8 by omega) (by decide), obs, w3]
    unfold p_Offering_postFor
    rw [if_neg (nI_pos (show i < 2 ^ 31 by omega)), h67, if_pos (nI_lt hi (by omega)), if_pos (show nI i < 8 from nI_lt (b := 8) (by omega) (by decide)), ix_nI (show i < 8 by omega) (by decide), obs, lt1_eq, w2, obs]
    cases ho : o i with
    | none => exact ⟨-9, σ', τ', rfl, rfl, hfin⟩
    | some x =>
      have hx := w1 x ho
      rw [oes, ((h.frC a2).2.2.1.2.2.2 x hx).2.1, obs, oes]
      exact ⟨nI x, σ', τ', rfl, rfl, hfin⟩
  · rw [in0_f (by omega) hno, obs, if_pos rfl, m_r1, obs]
    by_cases h0 : a1 < 0
    · rw [if_pos h0, p_r1, obs]
      exact ⟨-1, rfC σ 1, rfM τ 1, rfl, rfl, inv_rf hI 1⟩
    · rw [if_neg h0, if_neg (Int32.not_lt.mpr (out_lt (by omega) hno h0)), p_r1, obs]
      exact ⟨-1, rfC σ 1, rfM τ 1, rfl, rfl, inv_rf hI 1⟩
