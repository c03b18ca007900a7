/-! ===== choice: what the class gathers ===== -/
def orw (τ : St) (g : Nat → Int32) (pl : Int32) : Nat → Nat
  | 0 => 0
  | p + 1 => if g p = pl then orw τ g pl p ||| (τ.1 0 7 p).toNatClampNeg else orw τ g pl p
def memd (τ : St) (g : Nat → Int32) (pl : Int32) (Q x : Nat) : Nat := (mml τ g pl Q).getD x 0
def cpx (τ : St) (g : Nat → Int32) (pl : Int32) (P Q T R : Nat) : CP :=
  ((mml τ g pl Q).length, fun x => sev τ (memd τ g pl Q x) + (if τ.1 0 16 (memd τ g pl Q x) < 0 then 0 else τ.1 0 16 (memd τ g pl Q x)), fun x => mk τ T R (memd τ g pl Q x) (τ.1 0 0 0), fun x => decide (¬ τ.1 0 16 (memd τ g pl Q x) < 0), fun x => decide (¬ τ.1 0 15 (memd τ g pl Q x) < τ.1 0 0 0), fun t x => ((τ.1 0 9 (memd τ g pl Q x)).toNatClampNeg).testBit t, orw τ g pl P, (τ.1 0 0 21).toNatClampNeg)
theorem memd_eq {τ : St} {g : Nat → Int32} {pl : Int32} {Q x k : Nat} (h : (mml τ g pl Q)[x]? = some k) : memd τ g pl Q x = k := by
  unfold memd
  rw [List.getD_eq_getElem?_getD, h]
  rfl
section Gather
variable {σ τ : St} {U P Q T R L E : Nat}
theorem orw_lt (hp : IPo σ τ U P Q) (g : Nat → Int32) (pl : Int32) : ∀ n, n ≤ P → orw τ g pl n < 1024
  | 0, _ => by show 0 < 1024; decide
  | n + 1, h => by
    have ih := orw_lt hp g pl n (by omega)
    unfold orw
    split
    · obtain ⟨w, w1, w2⟩ := rg_nI (hi := 1023) (wants_rg hp (show n < P by omega)).2
      rw [w2, nI_clamp (by omega)]
      exact Nat.or_lt_two_pow (n := 10) ih (by omega)
    · exact ih
theorem p_wanted_eq (h : InvB σ τ U P Q T R L E) {σ' : St} (hf : FrC σ σ') {g : Nat → Int32} {pl : Int32} (hg : ∀ p, p < P → σ'.1 0 15 p = g p) (hpl : σ'.1 0 2 4 = pl) : p_Pools_wanted σ' = some (nI (orw τ g pl P)) := by
  have hp := (h.frC hf).2.2.1
  have hP := hp.1
  unfold p_Pools_wanted
  refine itr_bd P (fun i => (nI (orw τ g pl i), nI i)) (nI (orw τ g pl P)) (FU_lt (by omega)) rfl (fun i hi => ?_) ?_ rfl
  · obtain ⟨w, w1, w2⟩ := rg_nI (hi := 1023) (wants_rg hp hi).2
    simp only [hp.2.2.1, if_pos (nI_lt hi (show P < 2 ^ 31 by omega)), postAt_t hp hi, obs, oes, p_joinedAs_eq hp hi, hg i hi, hpl, (wants_rg hp hi).1, nI_1]
    have e : orw τ g pl (i + 1) = if g i = pl then orw τ g pl i ||| (τ.1 0 7 i).toNatClampNeg else orw τ g pl i := rfl
    rw [e]
    by_cases c : g i = pl
    · rw [if_pos c, if_pos c, obs, w2, nI_or, nI_clamp (by omega)]
    · rw [if_neg c, if_neg c, obs]
  · simp only [hp.2.2.1, if_neg (nI_nlt (Nat.le_refl P) (show P < 2 ^ 31 by omega))]
def scrH (d j _k : Nat) : Bool := d == 0 && (j == 4 || j == 22 || j == 23 || j == 24 || j == 25)
theorem scrH_C (d j k : Nat) (h : scrC d j k = false) : scrH d j k = false := by
  cases hk : scrH d j k with
  | false => rfl
  | true =>
    unfold scrH at hk
    simp only [Bool.and_eq_true, Bool.or_eq_true, beq_iff_eq] at hk
    obtain ⟨rfl, (((rfl | rfl) | rfl) | rfl) | rfl⟩ := hk
    · have : scrC 0 4 k = true := rfl
      rw [this] at h; cases h
    · have : scrC 0 22 k = true := rfl
      rw [this] at h; cases h
    · have : scrC 0 23 k = true := rfl
      rw [this] at h; cases h
    · have : scrC 0 24 k = true := rfl
      rw [this] at h; cases h
    · have : scrC 0 25 k = true := rfl
      rw [this] at h; cases h
abbrev FrH (σ σ' : St) : Prop := Fr scrH σ σ'
theorem FrH.toC {σ σ' : St} (h : FrH σ σ') : FrC σ σ' := Fr.mono h scrH_C
/-- gathered up to i -/
def GC (σ : St) (c : CP) (i : Nat) (σ' : St) : Prop := FrH σ σ' ∧ σ'.1 0 4 5 = nI c.1 ∧ σ'.1 0 4 6 = nI (mkm (fun x => c.2.2.2.2.1 x && !c.2.2.2.1 x) i) ∧ σ'.1 0 4 7 = nI (mkm c.2.2.2.1 i) ∧ (∀ t, t < 10 → σ'.1 0 24 t = nI (mkm (c.2.2.2.2.2.1 t) i)) ∧ ∀ x, x < i → σ'.1 0 22 x = c.2.1 x ∧ σ'.1 0 23 x = c.2.2.1 x
theorem shl_x {x : Nat} (hx : x < 12) : (1 : Int32) <<< (nI x &&& 31) = nI (2 ^ x) := shl1 (by omega)
set_option maxHeartbeats 800000 in
theorem p_gone_ok (h : InvB σ τ U P Q T R L E) {g : Nat → Int32} {pl : Int32} {i k : Nat} (hi : i < 12) (hk : (mml τ g pl Q)[i]? = some k) {σ1 : St} (hG : GC σ (cpx τ g pl P Q T R) i σ1) : OK (p_Chooser_gatherOne σ1 (nI i) k) (fun σ' => GC σ (cpx τ g pl P Q T R) (i + 1) σ' ∧ (∀ d j x, (j ≠ 4 ∧ j ≠ 22 ∧ j ≠ 23 ∧ j ≠ 24) → σ'.1 d j x = σ1.1 d j x) ∧ σ'.2 = σ1.2) := by
  obtain ⟨hf, h45, h46, h47, h24, hrow⟩ := hG
  have hkQ := (rf_lt hk).1
  have hmd := memd_eq hk
  have h1 := h.frC (FrH.toC hf)
  obtain ⟨sk, sk1, sk2⟩ := rg_nI (hi := 1023) (skills_rg h.2.2.2.1 hkQ).2
  have hsum : σ1.1 2 k 8 = τ.1 0 16 k := (h1.2.2.2.1.2.2.2 k hkQ).2.2.2.2.2.2.2.1
  unfold p_Chooser_gatherOne
  rw [if_neg (nI_pos (by omega)), if_pos (show nI i < 12 from nI_lt (b := 12) hi (by decide)), p_sev h1.1 h1.2.2.2.1 hkQ, obs, ix_nI hi (by decide), obs, lt1_eq, hsum]
  have hcx : sev τ k + (if τ.1 0 16 k < (0 : Int32) then (0 : Int32) else τ.1 0 16 k) = (cpx τ g pl P Q T R).2.1 i := by
    show _ = sev τ (memd τ g pl Q i) + _
    rw [hmd]
  rw [hcx]
  generalize hv : (cpx τ g pl P Q T R).2.1 i = v at *
  have hf2 : FrH σ (sx σ1 0 22 i v) := hf.sx rfl
  have h2 := h.frC (FrH.toC hf2)
  have hmk : p_Firm_markAsOf (sx σ1 0 22 i v) k ((sx σ1 0 22 i v).1 0 1 0) = some ((cpx τ g pl P Q T R).2.2.1 i) := by
    rw [h2.1.1, p_mark_eq h2.1 h2.2.2.1 h2.2.2.2.1 h2.2.2.2.2.1 h2.2.2.2.2.2.1 hkQ]
    show _ = some (mk τ T R (memd τ g pl Q i) (τ.1 0 0 0))
    rw [hmd]
  rw [hmk, obs, obs, lt1_eq]
  generalize hw : (cpx τ g pl P Q T R).2.2.1 i = w at *
  have hf3 : FrH σ (sx (sx σ1 0 22 i v) 0 23 i w) := hf2.sx rfl
  have h3 := h.frC (FrH.toC hf3)
  generalize hσ3 : sx (sx σ1 0 22 i v) 0 23 i w = σ3 at *
  have r22 : ∀ x, x < i + 1 → σ3.1 0 22 x = (cpx τ g pl P Q T R).2.1 x ∧ σ3.1 0 23 x = (cpx τ g pl P Q T R).2.2.1 x := by
    intro x hx
    rw [← hσ3]
    by_cases e : x = i
    · subst e
      refine ⟨?_, ?_⟩
      · rw [hv]; simp [sx_1]
      · rw [hw]; simp [sx_1]
    · obtain ⟨d1, d2⟩ := hrow x (by omega)
      refine ⟨?_, ?_⟩
      · rw [← d1]; simp [sx_1, e]
      · rw [← d2]; simp [sx_1, e]
  have s46 : σ3.1 0 4 6 = nI (mkm (fun x => (cpx τ g pl P Q T R).2.2.2.2.1 x && !(cpx τ g pl P Q T R).2.2.2.1 x) i) := by rw [← hσ3]; exact h46
  have s47 : σ3.1 0 4 7 = nI (mkm (cpx τ g pl P Q T R).2.2.2.1 i) := by rw [← hσ3]; exact h47
  have s45 : σ3.1 0 4 5 = nI (cpx τ g pl P Q T R).1 := by rw [← hσ3]; exact h45
  have s24 : ∀ t, t < 10 → σ3.1 0 24 t = nI (mkm ((cpx τ g pl P Q T R).2.2.2.2.2.1 t) i) := by rw [← hσ3]; exact h24
  have so : ∀ d j x, (j ≠ 4 ∧ j ≠ 22 ∧ j ≠ 23 ∧ j ≠ 24) → σ3.1 d j x = σ1.1 d j x := by
    intro d j x hj
    rw [← hσ3]
    simp [sx_1, hj.2.1, hj.2.2.1]
  have so2 : σ3.2 = σ1.2 := by rw [← hσ3]; rfl
  have hvB : (cpx τ g pl P Q T R).2.2.2.1 i = decide (¬ τ.1 0 16 k < 0) := by
    show decide (¬ τ.1 0 16 (memd τ g pl Q i) < 0) = _
    rw [hmd]
  have hgB : (cpx τ g pl P Q T R).2.2.2.2.1 i = decide (¬ τ.1 0 15 k < τ.1 0 0 0) := by
    show decide (¬ τ.1 0 15 (memd τ g pl Q i) < τ.1 0 0 0) = _
    rw [hmd]
  have hhB : ∀ t, (cpx τ g pl P Q T R).2.2.2.2.2.1 t i = sk.testBit t := by
    intro t
    show ((τ.1 0 9 (memd τ g pl Q i)).toNatClampNeg).testBit t = _
    rw [hmd, sk2, nI_clamp (by omega)]
  -- the two sets
  have hvol : p_Person_isVolunteer σ3 k = some (if decide (¬ τ.1 0 16 k < 0) then 1 else 0) := by
    unfold p_Person_isVolunteer
    rw [(h3.2.2.2.1.2.2.2 k hkQ).2.2.2.2.2.2.2.1]
    by_cases c : τ.1 0 16 k < 0
    · rw [if_pos c, decide_eq_false (fun x => x c)]; rfl
    · rw [if_neg c, decide_eq_true c]; rfl
  rw [hvol, obs, p_prot_eq h3.1 h3.2.2.2.1 hkQ, obs, shl_x hi]
  generalize hc : cpx τ g pl P Q T R = c at *
  have mid : ∃ σ4, (if (if decide (¬ τ.1 0 16 k < 0) then (1 : Int32) else 0) = 0 then (if (if decide (τ.1 0 15 k < τ.1 0 0 0) then (0 : Int32) else 1) = 0 then some σ3 else lt1 (sx σ3 0 4 6 (σ3.1 0 4 6 ||| nI (2 ^ i))) fun σ30 => some σ30) else lt1 (sx σ3 0 4 7 (σ3.1 0 4 7 ||| nI (2 ^ i))) fun σ31 => some σ31) = some σ4 ∧ FrH σ σ4 ∧ σ4.1 0 4 5 = nI c.1 ∧ σ4.1 0 4 6 = nI (mkm (fun x => c.2.2.2.2.1 x && !c.2.2.2.1 x) (i + 1)) ∧ σ4.1 0 4 7 = nI (mkm c.2.2.2.1 (i + 1)) ∧ (∀ t, t < 10 → σ4.1 0 24 t = nI (mkm (c.2.2.2.2.2.1 t) i)) ∧ (∀ x, x < i + 1 → σ4.1 0 22 x = c.2.1 x ∧ σ4.1 0 23 x = c.2.2.1 x) ∧ (∀ d j x, (j ≠ 4 ∧ j ≠ 22 ∧ j ≠ 23 ∧ j ≠ 24) → σ4.1 d j x = σ1.1 d j x) ∧ σ4.2 = σ1.2 := by
    have e6 : mkm (fun x => c.2.2.2.2.1 x && !c.2.2.2.1 x) (i + 1) = mkm (fun x => c.2.2.2.2.1 x && !c.2.2.2.1 x) i ||| (if (c.2.2.2.2.1 i && !c.2.2.2.1 i) then 2 ^ i else 0) := rfl
    have e7 : mkm c.2.2.2.1 (i + 1) = mkm c.2.2.2.1 i ||| (if c.2.2.2.1 i then 2 ^ i else 0) := rfl
    rw [e6, e7, hvB, hgB]
    by_cases cv : τ.1 0 16 k < 0
    · have dv : decide (¬ τ.1 0 16 k < 0) = false := decide_eq_false (fun x => x cv)
      rw [dv]
      by_cases cg : τ.1 0 15 k < τ.1 0 0 0
      · have dg : decide (¬ τ.1 0 15 k < τ.1 0 0 0) = false := decide_eq_false (fun x => x cg)
        rw [dg, decide_eq_true cg]
        refine ⟨σ3, rfl, hf3, s45, ?_, ?_, s24, r22, so, so2⟩
        · rw [s46]; simp
        · rw [s47]; simp
      · have dg : decide (¬ τ.1 0 15 k < τ.1 0 0 0) = true := decide_eq_true cg
        rw [dg, decide_eq_false cg]
        refine ⟨sx σ3 0 4 6 (σ3.1 0 4 6 ||| nI (2 ^ i)), rfl, hf3.sx rfl, s45, ?_, ?_, s24, r22, fun d j x hj => ?_, so2⟩
        · rw [s46, nI_or]; simp [sx_1]
        · show σ3.1 0 4 7 = _
          rw [s47]; simp
        · rw [sx_1, if_neg (fun e => hj.1 e.2.1)]; exact so d j x hj
    · have dv : decide (¬ τ.1 0 16 k < 0) = true := decide_eq_true cv
      rw [dv]
      refine ⟨sx σ3 0 4 7 (σ3.1 0 4 7 ||| nI (2 ^ i)), rfl, hf3.sx rfl, s45, ?_, ?_, s24, r22, fun d j x hj => ?_, so2⟩
      · show σ3.1 0 4 6 = _
        rw [s46]; simp
      · rw [s47, nI_or]; simp [sx_1]
      · rw [sx_1, if_neg (fun e => hj.1 e.2.1)]; exact so d j x hj
  obtain ⟨σ4, m0, m1, m2, m3, m4, m5, m6, m7, m8⟩ := mid
  rw [m0, obs]
  refine OK.bi (OK.mono (R := fun σ' => GC σ c (i + 1) σ' ∧ (∀ d j x, (j ≠ 4 ∧ j ≠ 22 ∧ j ≠ 23 ∧ j ≠ 24) → σ'.1 d j x = σ1.1 d j x) ∧ σ'.2 = σ1.2) ?_ (fun s hs' => OK.so hs'))
  refine OK.itr 10 (fun t s => s.1 = nI t ∧ FrH σ s.2 ∧ s.2.1 0 4 5 = nI c.1 ∧ s.2.1 0 4 6 = nI (mkm (fun x => c.2.2.2.2.1 x && !c.2.2.2.1 x) (i + 1)) ∧ s.2.1 0 4 7 = nI (mkm c.2.2.2.1 (i + 1)) ∧ (∀ t', t' < 10 → s.2.1 0 24 t' = nI (mkm (c.2.2.2.2.2.1 t') (if t' < t then i + 1 else i))) ∧ (∀ x, x < i + 1 → s.2.1 0 22 x = c.2.1 x ∧ s.2.1 0 23 x = c.2.2.1 x) ∧ (∀ d j x, (j ≠ 4 ∧ j ≠ 22 ∧ j ≠ 23 ∧ j ≠ 24) → s.2.1 d j x = σ1.1 d j x) ∧ s.2.2 = σ1.2) ⟨rfl, m1, m2, m3, m4, fun t' ht' => by rw [if_neg (Nat.not_lt_zero _)]; exact m5 t' ht', m6, m7, m8⟩ (fun t s ht hs' => ?_) (fun s hs' => ?_) (FU_lt (by decide))
  · obtain ⟨t', σ5⟩ := s
    obtain ⟨e1, n1, n2, n3, n4, n5, n6, n7, n8⟩ := hs'
    simp only at e1 n1 n2 n3 n4 n5 n6 n7 n8 ⊢
    subst e1
    have hsk : σ5.1 2 k 1 = nI sk := by rw [(n1 2 k 1 rfl).1, (skills_rg h.2.2.2.1 hkQ).1, sk2]
    have e24 : mkm (c.2.2.2.2.2.1 t) (i + 1) = mkm (c.2.2.2.2.2.1 t) i ||| (if c.2.2.2.2.2.1 t i then 2 ^ i else 0) := rfl
    have h24t := n5 t ht
    rw [if_neg (Nat.lt_irrefl t)] at h24t
    rw [if_pos (show nI t < 10 from nI_lt (b := 10) ht (by decide)), hsk]
    have hbit := bitI (m := sk) (u := t) (by omega) (by omega)
    by_cases cb : sk.testBit t = true
    · rw [if_pos (hbit.mpr cb), ix_nI ht (by decide), obs, obs, lt1_eq, obs, nI_1, h24t, nI_or]
      refine OK.so ⟨rfl, n1.sx rfl, n2, n3, n4, fun t' ht' => ?_, n6, fun d j x hj => ?_, n8⟩
      · show (sx σ5 0 24 t _).1 0 24 t' = _
        rw [sx_1]
        by_cases e : t' = t
        · subst e
          rw [if_pos ⟨rfl, rfl, rfl⟩, if_pos (Nat.lt_succ_self _), e24, hhB, cb]
          rfl
        · rw [if_neg (fun x => e x.2.2), n5 t' ht']
          by_cases e2 : t' < t
          · rw [if_pos e2, if_pos (show t' < t + 1 by omega)]
          · rw [if_neg e2, if_neg (show ¬ t' < t + 1 by omega)]
      · show (sx σ5 0 24 t _).1 d j x = _
        rw [sx_1, if_neg (fun e => hj.2.2.2 e.2.1)]
        exact n7 d j x hj
    · rw [if_neg (fun e => cb (hbit.mp e)), obs, nI_1]
      refine OK.so ⟨rfl, n1, n2, n3, n4, fun t' ht' => ?_, n6, n7, n8⟩
      show σ5.1 0 24 t' = _
      by_cases e : t' = t
      · subst e
        rw [if_pos (Nat.lt_succ_self _), h24t, e24, hhB]
        have : sk.testBit t' = false := by simpa using cb
        rw [this]
        simp
      · rw [n5 t' ht']
        by_cases e2 : t' < t
        · rw [if_pos e2, if_pos (show t' < t + 1 by omega)]
        · rw [if_neg e2, if_neg (show ¬ t' < t + 1 by omega)]
  · obtain ⟨t', σ5⟩ := s
    obtain ⟨e1, n1, n2, n3, n4, n5, n6, n7, n8⟩ := hs'
    simp only at e1 n1 n2 n3 n4 n5 n6 n7 n8 ⊢
    subst e1
    rw [if_neg (show ¬ nI 10 < 10 by decide)]
    refine OK.so ⟨⟨n1, n2, n3, n4, fun t ht => ?_, n6⟩, n7, n8⟩
    rw [n5 t ht, if_pos ht]
end Gather
