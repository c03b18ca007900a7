/-! ===== offers: the class's choice ===== -/
/-- the class's table from row i0 on -/
def OT (σ τ : St) (P L : Nat) (i0 : Nat) (σ' : St) : Prop := OV σ τ P σ' ∧ (∀ i v, i < L → v < 8 → σ'.1 0 30 (i * 8 + v) = nI (ofw 1000 σ τ P L i v)) ∧ ∀ i t, i0 ≤ i → i ≤ L → t < 2 ^ (vcl σ τ P).length → pc t ≤ i → σ'.1 0 31 (i * 256 + t) = nI (dp (ofw 1000 σ τ P L) (vcl σ τ P).length L (L - i) t)
section OfferD
variable {σ τ : St} {U P Q T R L E : Nat}
theorem p8 {n : Nat} (h : n ≤ 8) : 2 ^ n ≤ 256 := Nat.pow_le_pow_right (n := 2) (by decide) h
theorem p_bestFrom_eq {σ' : St} {i t : Nat} (hi : i ≤ 8) (ht : t < 256) : p_Offering_bestFrom σ' (nI i) (nI t) = some (σ'.1 0 31 (i * 256 + t)) := by
  have e : nI i * (256 : Int32) = nI (i * 256) := pk_mul i 256
  unfold p_Offering_bestFrom
  rw [e, nI_add, if_neg (nI_pos (by omega)), if_pos (show nI (i * 256 + t) < 2304 from nI_lt (b := 2304) (by omega) (by decide)), ix_nI (show i * 256 + t < 2304 by omega) (by decide), obs]
theorem p_bestWith_eq (h : InvB σ τ U P Q T R L E) {σ' : St} {i v t : Nat} (hi : i < L) (hv : v < (vcl σ τ P).length) (ht : t < 2 ^ (vcl σ τ P).length) (hpt : pc t ≤ i) (hO : OT σ τ P L (i + 1) σ') : p_Offering_bestWith σ' (nI i) (nI v) (nI t) = some (if okv (ofw 1000 σ τ P L i) t v then nI (ofw 1000 σ τ P L i v + dp (ofw 1000 σ τ P L) (vcl σ τ P).length L (L - (i + 1)) (t ||| 2 ^ v)) else -1) := by
  obtain ⟨o1, o2, o3⟩ := hO
  have hL := h.2.2.2.2.2.2.1.1
  have hV := vcl_len σ τ P
  have hp8 := p8 hV
  have e8 : nI i * (8 : Int32) = nI (i * 8) := pk_mul i 8
  have hor := or_lt ht hv
  have hpo := pc_or (t := t) (v := v) (by omega)
  have hw := ofw_WR h
  unfold p_Offering_bestWith okv
  rw [e8, nI_add, if_neg (nI_pos (by omega)), if_pos (show nI (i * 8 + v) < 64 from nI_lt (b := 64) (by omega) (by decide)), ix_nI (show i * 8 + v < 64 by omega) (by decide), obs, o2 i v hi (by omega), obs]
  have hwl : ofw 1000 σ τ P L i v ≤ 2000000 := by
    rcases hw i v with ⟨h1, -⟩ | ⟨p, f, k1, k2, k3, h1, -⟩ <;> omega
  by_cases c1 : ofw 1000 σ τ P L i v = 0
  · rw [if_pos (by rw [c1]; rfl), decide_eq_false (fun x => x c1)]
    rfl
  · have hbit := bitI (m := t) (u := v) (by omega) (by omega)
    rw [if_neg (nI_ne0 (by omega) (by omega)), decide_eq_true c1, Bool.true_and]
    cases c2 : t.testBit v with
    | true => rw [if_pos (hbit.mpr c2)]; rfl
    | false =>
      rw [if_neg (fun e => by rw [hbit.mp e] at c2; cases c2), shl1 (show v < 31 by omega), nI_or, nI_1, p_bestFrom_eq (show i + 1 ≤ 8 by omega) (by omega), obs, o3 (i + 1) (t ||| 2 ^ v) (Nat.le_refl _) (by omega) hor (by omega), o2 i v hi (by omega), nI_add]
      rfl
theorem dp_le (h : InvB σ τ U P Q T R L E) {n : Nat} (hn : n ≤ 8) (V t : Nat) : dp (ofw 1000 σ τ P L) V L n t ≤ 8100000 ∧ dp (ofw 10000 σ τ P L) V L n t ≤ 8100000 := TR_le hn (dp_TR (ofw_WR h) V L n hn t)
theorem mxf_le (h : InvB σ τ U P Q T R L E) {n : Nat} (hn : n + 1 ≤ 8) (V i t v : Nat) : mxf (dp (ofw 1000 σ τ P L) V L n) (ofw 1000 σ τ P L i) t v ≤ 8100000 ∧ mxf (dp (ofw 10000 σ τ P L) V L n) (ofw 10000 σ τ P L i) t v ≤ 8100000 := TR_le hn (mxf_TR (ofw_WR h) hn (dp_TR (ofw_WR h) V L n (by omega)) i t v)
theorem p_fillBest_ok (h : InvB σ τ U P Q T R L E) {σ1 : St} {i t : Nat} (hi : i < L) (ht : t < 2 ^ (vcl σ τ P).length) (hpt : pc t ≤ i) (hO : OT σ τ P L (i + 1) σ1) : OK (p_Offering_fillBest σ1 (nI i) (nI t)) (fun σ' => σ' = sx σ1 0 31 (i * 256 + t) (nI (dp (ofw 1000 σ τ P L) (vcl σ τ P).length L (L - i) t))) := by
  obtain ⟨o1, o2, o3⟩ := id hO
  have hL := h.2.2.2.2.2.2.1.1
  have hV := vcl_len σ τ P
  have hp8 := p8 hV
  obtain ⟨n, hn⟩ : ∃ n, L - i = n + 1 := ⟨L - i - 1, by omega⟩
  have hn1 : L - (i + 1) = n := by omega
  have hn2 : L - (n + 1) = i := by omega
  have hdp : dp (ofw 1000 σ τ P L) (vcl σ τ P).length L (L - i) t = mxf (dp (ofw 1000 σ τ P L) (vcl σ τ P).length L n) (ofw 1000 σ τ P L i) t (vcl σ τ P).length := by
    rw [hn]
    show mxf (dp (ofw 1000 σ τ P L) (vcl σ τ P).length L n) (ofw 1000 σ τ P L (L - (n + 1))) t (vcl σ τ P).length = _
    rw [hn2]
  unfold p_Offering_fillBest
  rw [nI_1, p_bestFrom_eq (show i + 1 ≤ 8 by omega) (by omega), obs, o3 (i + 1) t (Nat.le_refl _) (by omega) ht (by omega), hn1, hdp]
  have hloop : itr0 (S := Int32 × Int32) (E := Int32) (fun s3 => (if s3.2 < σ1.1 0 6 6 then (Option.bind (p_Offering_bestWith σ1 (nI i) s3.2 (nI t)) fun r13 => some (.inl (if s3.1 < r13 then r13 else s3.1, s3.2 + (1 : Int32)))) else some (.inr s3.1))) FU (nI (dp (ofw 1000 σ τ P L) (vcl σ τ P).length L n t), (0 : Int32)) = some (nI (mxf (dp (ofw 1000 σ τ P L) (vcl σ τ P).length L n) (ofw 1000 σ τ P L i) t (vcl σ τ P).length)) := by
    refine itr_eq (vcl σ τ P).length (fun v => (nI (mxf (dp (ofw 1000 σ τ P L) (vcl σ τ P).length L n) (ofw 1000 σ τ P L i) t v), nI v)) _ rfl (fun v hv => ?_) ?_ (FU_lt (by omega))
    · have hm := (mxf_le h (show n + 1 ≤ 8 by omega) (vcl σ τ P).length i t v).1
      have hm2 := (mxf_le h (show n + 1 ≤ 8 by omega) (vcl σ τ P).length i t (v + 1)).1
      simp only [o1.2.1, if_pos (nI_lt hv (show (vcl σ τ P).length < 2 ^ 31 by omega)), nI_1]
      rw [p_bestWith_eq h hi hv ht hpt hO, obs, hn1]
      have e : mxf (dp (ofw 1000 σ τ P L) (vcl σ τ P).length L n) (ofw 1000 σ τ P L i) t (v + 1) = if okv (ofw 1000 σ τ P L i) t v && decide (mxf (dp (ofw 1000 σ τ P L) (vcl σ τ P).length L n) (ofw 1000 σ τ P L i) t v < ofw 1000 σ τ P L i v + dp (ofw 1000 σ τ P L) (vcl σ τ P).length L n (t ||| 2 ^ v)) then ofw 1000 σ τ P L i v + dp (ofw 1000 σ τ P L) (vcl σ τ P).length L n (t ||| 2 ^ v) else mxf (dp (ofw 1000 σ τ P L) (vcl σ τ P).length L n) (ofw 1000 σ τ P L i) t v := rfl
      rw [e]
      rw [e] at hm2
      have hwl : ofw 1000 σ τ P L i v ≤ 2000000 := by
        rcases ofw_WR h i v with ⟨h1, -⟩ | ⟨p, f, k1, k2, k3, h1, -⟩ <;> omega
      have hdl := (dp_le h (show n ≤ 8 by omega) (vcl σ τ P).length (t ||| 2 ^ v)).1
      cases okv (ofw 1000 σ τ P L i) t v with
      | false =>
        rw [if_neg (show ¬ (false = true) by decide), Bool.false_and, if_neg (show ¬ (false = true) by decide), if_neg (fun x => nI_m1 (k := 0) (by decide) (by
          rw [i_lt, nI_toInt (by omega)] at x
          have : (-1 : Int32).toInt = -1 := rfl
          omega))]
      | true =>
        rw [if_pos rfl, Bool.true_and]
        by_cases cc : mxf (dp (ofw 1000 σ τ P L) (vcl σ τ P).length L n) (ofw 1000 σ τ P L i) t v < ofw 1000 σ τ P L i v + dp (ofw 1000 σ τ P L) (vcl σ τ P).length L n (t ||| 2 ^ v)
        · rw [if_pos (nI_lt cc (by omega)), decide_eq_true cc, if_pos rfl]
        · rw [if_neg (nI_nlt (by omega) (by omega)), decide_eq_false cc, if_neg (show ¬ (false = true) by decide)]
    · simp only [o1.2.1, if_neg (nI_nlt (Nat.le_refl _) (show (vcl σ τ P).length < 2 ^ 31 by omega))]
  have e : nI i * (256 : Int32) = nI (i * 256) := pk_mul i 256
  rw [hloop, obs, e, nI_add, if_neg (nI_pos (by omega)), if_pos (show nI (i * 256 + t) < 2304 from nI_lt (b := 2304) (by omega) (by decide)), ix_nI (show i * 256 + t < 2304 by omega) (by decide), obs, lt1_eq]
  exact OK.so rfl
theorem p_fillRow_ok (h : InvB σ τ U P Q T R L E) {σ1 : St} {i : Nat} (hi : i < L) (hO : OT σ τ P L (i + 1) σ1) : OK (p_Offering_fillRow σ1 (nI i)) (OT σ τ P L i) := by
  have hL := h.2.2.2.2.2.2.1.1
  have hV := vcl_len σ τ P
  have hp8 := p8 hV
  unfold p_Offering_fillRow
  refine OK.bi (OK.mono (R := OT σ τ P L i) ?_ (fun s hs' => OK.so hs'))
  refine OK.itr (2 ^ (vcl σ τ P).length) (fun t s => s.1 = nI t ∧ OT σ τ P L (i + 1) s.2 ∧ ∀ t', t' < t → pc t' ≤ i → s.2.1 0 31 (i * 256 + t') = nI (dp (ofw 1000 σ τ P L) (vcl σ τ P).length L (L - i) t')) ⟨rfl, hO, fun t' ht' => by omega⟩ (fun t s ht hs' => ?_) (fun s hs' => ?_) (FU_lt (by omega))
  · obtain ⟨t', σ2⟩ := s
    obtain ⟨e1, hO2, hr⟩ := hs'
    simp only at e1 hO2 hr ⊢
    subst e1
    have hpl := pc_le t
    rw [hO2.1.2.1, shl1 (show (vcl σ τ P).length < 31 by omega), if_pos (nI_lt ht (by omega)), bc_eq (by omega), obs, nI_1]
    by_cases c : i < pc t
    · rw [if_pos (nI_lt c (by omega)), obs]
      refine OK.so ⟨rfl, hO2, fun t' ht' hp' => ?_⟩
      by_cases e : t' = t
      · subst e; omega
      · exact hr t' (by omega) hp'
    · obtain ⟨σ3, k1, k2⟩ := p_fillBest_ok h hi ht (show pc t ≤ i by omega) hO2
      rw [if_neg (nI_nlt (by omega) (by omega)), k1, obs, obs, k2]
      obtain ⟨o1, o2, o3⟩ := hO2
      refine OK.so ⟨rfl, ⟨⟨o1.1.sx rfl, o1.2.1, o1.2.2⟩, o2, fun i' t' hi1 hi2 ht' hp' => ?_⟩, fun t' ht' hp' => ?_⟩
      · show (sx σ2 0 31 (i * 256 + t) _).1 0 31 (i' * 256 + t') = _
        rw [sx_1, if_neg (fun y => by have := y.2.2; omega)]
        exact o3 i' t' hi1 hi2 ht' hp'
      · show (sx σ2 0 31 (i * 256 + t) _).1 0 31 (i * 256 + t') = _
        rw [sx_1]
        by_cases e : t' = t
        · subst e; rw [if_pos ⟨rfl, rfl, rfl⟩]
        · rw [if_neg (fun y => by have := y.2.2; omega)]
          exact hr t' (by omega) hp'
  · obtain ⟨t', σ2⟩ := s
    obtain ⟨e1, hO2, hr⟩ := hs'
    simp only at e1 hO2 hr ⊢
    subst e1
    rw [hO2.1.2.1, shl1 (show (vcl σ τ P).length < 31 by omega), if_neg (nI_nlt (Nat.le_refl _) (by omega))]
    obtain ⟨o1, o2, o3⟩ := hO2
    refine OK.so ⟨o1, o2, fun i' t hi1 hi2 ht hp => ?_⟩
    by_cases e : i' = i
    · subst e; exact hr t ht hp
    · exact o3 i' t (by omega) hi2 ht hp
theorem p_lpick_eq (h : InvB σ τ U P Q T R L E) {σ' : St} {i t : Nat} (hi : i < L) (ht : t < 2 ^ (vcl σ τ P).length) (hpt : pc t ≤ i) (hO : OT σ τ P L 0 σ') : p_Offering_leastPick σ' (nI i) (nI t) = some (oI (fstB (pkB (ofw 1000 σ τ P L) (vcl σ τ P).length L i t) (vcl σ τ P).length)) := by
  obtain ⟨o1, o2, o3⟩ := id hO
  have hO' : OT σ τ P L (i + 1) σ' := ⟨o1, o2, fun i' t' h1 h2 h3 h4 => o3 i' t' (Nat.zero_le _) h2 h3 h4⟩
  have hL := h.2.2.2.2.2.2.1.1
  have hV := vcl_len σ τ P
  have hp8 := p8 hV
  have hdl := (dp_le h (show L - i ≤ 8 by omega) (vcl σ τ P).length t).1
  unfold p_Offering_leastPick
  rw [p_bestFrom_eq (show i ≤ 8 by omega) (by omega), obs, o3 i t (Nat.zero_le _) (by omega) ht hpt]
  have hst : ∀ v, v < (vcl σ τ P).length → (Option.bind (p_Offering_bestWith σ' (nI i) (nI v) (nI t)) fun r11 => (if r11 = nI (dp (ofw 1000 σ τ P L) (vcl σ τ P).length L (L - i) t) then some (Sum.inr (α := Int32) (Sum.inr (α := Unit) (nI v))) else some (Sum.inl (nI v + (1 : Int32))))) = if pkB (ofw 1000 σ τ P L) (vcl σ τ P).length L i t v then some (.inr (.inr (nI v))) else some (.inl (nI (v + 1))) := by
    intro v hv
    have hwl : ofw 1000 σ τ P L i v ≤ 2000000 := by
      rcases ofw_WR h i v with ⟨h1, -⟩ | ⟨p, f, k1, k2, k3, h1, -⟩ <;> omega
    have hdl2 := (dp_le h (show L - (i + 1) ≤ 8 by omega) (vcl σ τ P).length (t ||| 2 ^ v)).1
    rw [p_bestWith_eq h hi hv ht hpt hO', obs, nI_1]
    unfold pkB
    cases okv (ofw 1000 σ τ P L i) t v with
    | false => rw [if_neg (show ¬ (false = true) by decide), if_neg (fun x => nI_m1 (by omega) x.symm)]; rfl
    | true =>
      rw [if_pos rfl, Bool.true_and]
      by_cases cc : ofw 1000 σ τ P L i v + dp (ofw 1000 σ τ P L) (vcl σ τ P).length L (L - (i + 1)) (t ||| 2 ^ v) = dp (ofw 1000 σ τ P L) (vcl σ τ P).length L (L - i) t
      · rw [if_pos (by rw [cc]), decide_eq_true cc]; rfl
      · rw [if_neg (fun x => cc (nI_inj (by omega) (by omega) x)), decide_eq_false cc]; rfl
  cases hc : fstB (pkB (ofw 1000 σ τ P L) (vcl σ τ P).length L i t) (vcl σ τ P).length with
  | none =>
    refine itr_bd (vcl σ τ P).length nI (.inl ()) (FU_lt (by omega)) rfl (fun v hv => ?_) ?_ rfl
    · rw [o1.2.1, if_pos (nI_lt hv (by omega)), hst v hv, fstB_some.fstB_none hc v hv]
      rfl
    · rw [o1.2.1, if_neg (nI_nlt (Nat.le_refl _) (by omega))]
  | some x =>
    obtain ⟨x1, x2, x3⟩ := fstB_some hc
    refine itr_bd x nI (.inr (nI x)) (FU_lt (by omega)) rfl (fun v hv => ?_) ?_ rfl
    · rw [o1.2.1, if_pos (nI_lt (show v < (vcl σ τ P).length by omega) (by omega)), hst v (by omega), x3 v hv]
      rfl
    · rw [o1.2.1, if_pos (nI_lt x1 (by omega)), hst x x1, x2]
      rfl
/-- all is settled -/
theorem p_settle_ok (h : InvB σ τ U P Q T R L E) : OK (p_Offering_settle σ) (fun σ' => FrC σ σ' ∧ σ'.1 0 31 0 = nI (dp (ofw 1000 σ τ P L) (vcl σ τ P).length L L 0) ∧ ∀ i, i < L → σ'.2 0 32 i = Option.map (vcd σ τ P) (fstB (pkB (ofw 1000 σ τ P L) (vcl σ τ P).length L i (gn (ofw 1000 σ τ P L) (vcl σ τ P).length L i)) (vcl σ τ P).length)) := by
  have hl := h.2.2.2.2.2.2.1
  have hL := hl.1
  have hV := vcl_len σ τ P
  have hp8 := p8 hV
  have h67 : ∀ σ', FrC σ σ' → σ'.1 0 6 7 = nI L := fun σ' hf => by rw [(hf 0 6 7 rfl).1]; exact hl.2.2.1
  obtain ⟨σ1, a1, a2⟩ := p_gvac_ok h
  unfold p_Offering_settle
  rw [a1, obs]
  refine OK.bi (OK.mono (R := fun σ2 => OV σ τ P σ2 ∧ ∀ i v, i < L → v < 8 → σ2.1 0 30 (i * 8 + v) = nI (ofw 1000 σ τ P L i v)) ?_ ?_)
  · refine OK.itr L (fun i s => s.1 = nI i ∧ OV σ τ P s.2 ∧ ∀ i' v, i' < i → v < 8 → s.2.1 0 30 (i' * 8 + v) = nI (ofw 1000 σ τ P L i' v)) ⟨rfl, a2, fun i' v hi' => by omega⟩ (fun i s hi hs' => ?_) (fun s hs' => ?_) (FU_lt (by omega))
    · obtain ⟨i', σ2⟩ := s
      obtain ⟨e1, hO, hw⟩ := hs'
      simp only at e1 hO hw ⊢
      subst e1
      obtain ⟨σ3, k1, k2, k3⟩ := p_gworth_ok h hi hO hw
      rw [h67 σ2 hO.1, if_pos (nI_lt hi (by omega)), k1, obs, nI_1]
      exact OK.so ⟨rfl, k2, k3⟩
    · obtain ⟨i', σ2⟩ := s
      obtain ⟨e1, hO, hw⟩ := hs'
      simp only at e1 hO hw ⊢
      subst e1
      rw [h67 σ2 hO.1, if_neg (nI_nlt (Nat.le_refl _) (by omega))]
      exact OK.so ⟨hO, hw⟩
  · rintro σ2 ⟨hO2, hw2⟩
    rw [fill_eq _ 31 2304 0 (by decide), obs]
    have hf3 : FrC σ (fl σ2 31 2304 0) := hO2.1.fl (fun _ _ => rfl)
    have hO3 : OT σ τ P L L (fl σ2 31 2304 0) := by
      refine ⟨⟨hf3, hO2.2.1, hO2.2.2⟩, hw2, fun i t h1 h2 h3 h4 => ?_⟩
      have : i = L := by omega
      subst this
      rw [fl_1, if_pos ⟨rfl, rfl, by omega⟩, Nat.sub_self]
      rfl
    rw [h67 _ hf3]
    refine OK.bi (OK.mono (R := OT σ τ P L 0) ?_ ?_)
    · refine OK.itr L (fun j s => s.1 = nI (L - j) - 1 ∧ OT σ τ P L (L - j) s.2) ⟨rfl, hO3⟩ (fun j s hj hs' => ?_) (fun s hs' => ?_) (FU_lt (by omega))
      · obtain ⟨i', σ4⟩ := s
        obtain ⟨e1, hO4⟩ := hs'
        simp only at e1 hO4 ⊢
        obtain ⟨i, hi⟩ : ∃ i, L - j = i + 1 := ⟨L - j - 1, by omega⟩
        have hi' : L - (j + 1) = i := by omega
        rw [hi, nI_pred] at e1
        rw [hi] at hO4
        subst e1
        obtain ⟨σ5, k1, k2⟩ := p_fillRow_ok h (show i < L by omega) hO4
        have em : nI i + (-1) = nI i - 1 := by grind
        rw [if_neg (nI_pos (by omega)), k1, obs, em, hi']
        exact OK.so ⟨rfl, k2⟩
      · obtain ⟨i', σ4⟩ := s
        obtain ⟨e1, hO4⟩ := hs'
        simp only at e1 hO4 ⊢
        rw [Nat.sub_self] at e1 hO4
        rw [e1, if_pos (show nI 0 - 1 < 0 by decide)]
        exact OK.so hO4
    · intro σ4 hO4
      refine OK.bi (OK.mono (R := fun σ' => FrC σ σ' ∧ σ'.1 0 31 0 = nI (dp (ofw 1000 σ τ P L) (vcl σ τ P).length L L 0) ∧ ∀ i, i < L → σ'.2 0 32 i = Option.map (vcd σ τ P) (fstB (pkB (ofw 1000 σ τ P L) (vcl σ τ P).length L i (gn (ofw 1000 σ τ P L) (vcl σ τ P).length L i)) (vcl σ τ P).length)) ?_ (fun s hs' => OK.so hs'))
      unfold p_Offering_pickOffers
      refine OK.bi (OK.mono (R := fun σ' => FrC σ σ' ∧ σ'.1 0 31 0 = nI (dp (ofw 1000 σ τ P L) (vcl σ τ P).length L L 0) ∧ ∀ i, i < L → σ'.2 0 32 i = Option.map (vcd σ τ P) (fstB (pkB (ofw 1000 σ τ P L) (vcl σ τ P).length L i (gn (ofw 1000 σ τ P L) (vcl σ τ P).length L i)) (vcl σ τ P).length)) ?_ (fun s hs' => OK.so hs'))
      have h00 : σ4.1 0 31 0 = nI (dp (ofw 1000 σ τ P L) (vcl σ τ P).length L L 0) := by
        have := hO4.2.2 0 0 (Nat.le_refl _) (Nat.zero_le _) (Nat.two_pow_pos _) (by rw [pc_0]; exact Nat.le_refl _)
        exact this
      refine OK.itr L (fun i s => s.1 = nI (gn (ofw 1000 σ τ P L) (vcl σ τ P).length L i) ∧ s.2.1 = nI i ∧ OT σ τ P L 0 s.2.2 ∧ ∀ i', i' < i → s.2.2.2 0 32 i' = Option.map (vcd σ τ P) (fstB (pkB (ofw 1000 σ τ P L) (vcl σ τ P).length L i' (gn (ofw 1000 σ τ P L) (vcl σ τ P).length L i')) (vcl σ τ P).length)) ⟨rfl, rfl, hO4, fun i' hi' => by omega⟩ (fun i s hi hs' => ?_) (fun s hs' => ?_) (FU_lt (by omega))
      · obtain ⟨g', i', σ5⟩ := s
        obtain ⟨e0, e1, hO5, hr⟩ := hs'
        simp only at e0 e1 hO5 hr ⊢
        subst e0
        subst e1
        obtain ⟨g1, g2⟩ := gn_ok (w := ofw 1000 σ τ P L) (L := L) hV i
        have hgs : gn (ofw 1000 σ τ P L) (vcl σ τ P).length L (i + 1) = Option.elim (fstB (pkB (ofw 1000 σ τ P L) (vcl σ τ P).length L i (gn (ofw 1000 σ τ P L) (vcl σ τ P).length L i)) (vcl σ τ P).length) (gn (ofw 1000 σ τ P L) (vcl σ τ P).length L i) (fun v => gn (ofw 1000 σ τ P L) (vcl σ τ P).length L i ||| 2 ^ v) := rfl
        rw [h67 _ hO5.1.1, if_pos (nI_lt hi (by omega)), if_pos (show nI i < 8 from nI_lt (b := 8) (by omega) (by decide)), p_lpick_eq h hi g1 g2 hO5, obs, ix_nI (show i < 8 by omega) (by decide), hgs, nI_1]
        have wr : ∀ (o : Option Nat), o = Option.map (vcd σ τ P) (fstB (pkB (ofw 1000 σ τ P L) (vcl σ τ P).length L i (gn (ofw 1000 σ τ P L) (vcl σ τ P).length L i)) (vcl σ τ P).length) → OT σ τ P L 0 (sy σ5 0 32 i o) ∧ ∀ i', i' < i + 1 → (sy σ5 0 32 i o).2 0 32 i' = Option.map (vcd σ τ P) (fstB (pkB (ofw 1000 σ τ P L) (vcl σ τ P).length L i' (gn (ofw 1000 σ τ P L) (vcl σ τ P).length L i')) (vcl σ τ P).length) := by
          intro o ho
          obtain ⟨o1, o2, o3⟩ := hO5
          refine ⟨⟨⟨o1.1.sy rfl, o1.2.1, o1.2.2⟩, o2, o3⟩, fun i' hi' => ?_⟩
          rw [sy_2]
          by_cases e : i' = i
          · subst e; rw [if_pos ⟨rfl, rfl, rfl⟩, ho]
          · rw [if_neg (fun y => e y.2.2)]
            exact hr i' (by omega)
        cases hc : fstB (pkB (ofw 1000 σ τ P L) (vcl σ τ P).length L i (gn (ofw 1000 σ τ P L) (vcl σ τ P).length L i)) (vcl σ τ P).length with
        | none =>
          rw [hc] at wr
          have hva : p_Offering_vacantAt σ5 (oI none) = some none := rfl
          rw [hva, obs, obs, lt1_eq, oI_none, if_pos (show (-1 : Int32) < 0 by decide), obs, oen]
          obtain ⟨q1, q2⟩ := wr none rfl
          exact OK.so ⟨rfl, rfl, q1, q2⟩
        | some v =>
          rw [hc] at wr
          have hv := (fstB_some hc).1
          have hx : (vcl σ τ P)[v]? = some (vcl σ τ P)[v] := List.getElem?_eq_getElem hv
          rw [oI_some, p_vacAt_eq hO5.1 (show v < 8 by omega), obs, obs, lt1_eq, if_neg (nI_pos (by omega)), obs, shl1 (show v < 31 by omega), nI_or, oes]
          obtain ⟨q1, q2⟩ := wr (vcl σ τ P)[v]? (by rw [hx]; show _ = some (vcd σ τ P v); rw [vcd_eq hx])
          exact OK.so ⟨rfl, rfl, q1, q2⟩
      · obtain ⟨g', i', σ5⟩ := s
        obtain ⟨e0, e1, hO5, hr⟩ := hs'
        simp only at e0 e1 hO5 hr ⊢
        subst e1
        rw [h67 _ hO5.1.1, if_neg (nI_nlt (Nat.le_refl _) (by omega))]
        have h00' : σ5.1 0 31 0 = nI (dp (ofw 1000 σ τ P L) (vcl σ τ P).length L L 0) := hO5.2.2 0 0 (Nat.le_refl _) (Nat.zero_le _) (Nat.two_pow_pos _) (by rw [pc_0]; exact Nat.le_refl _)
        exact OK.so ⟨hO5.1.1, h00', hr⟩
end OfferD
