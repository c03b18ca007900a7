/-! ===== choice: the reference ===== -/
def MP (τ : St) (c : CP) (ml : List Nat) (τ' : St) : Prop := FrM τ τ' ∧ τ'.1 0 0 40 = nI c.1 ∧ τ'.1 0 0 41 = nI c.2.2.2.2.2.2.1 ∧ ∀ x k, ml[x]? = some k → τ'.1 0 30 x = nI k
def MG (τ : St) (c : CP) (ml : List Nat) (τ' : St) : Prop := MP τ c ml τ' ∧ ∀ x, x < c.1 → τ'.1 0 31 x = c.2.1 x ∧ τ'.1 0 32 x = c.2.2.1 x
def MB (c : CP) (o : Option Nat) (τ' : St) : Prop := Option.elim o (τ'.1 0 0 42 = -1) (fun b => τ'.1 0 0 42 = nI b ∧ τ'.1 0 0 43 = nI (cFor c b) ∧ τ'.1 0 0 44 = tsum c.2.1 b c.1 ∧ τ'.1 0 0 45 = tsum c.2.2.1 b c.1)
section ChoiceM
variable {σ τ : St} {U P Q T R L E : Nat}
theorem sev_fr {τ' : St} (hf : FrM τ τ') (k : Nat) : sev τ' k = sev τ k := by
  unfold sev yr
  rw [(hf 0 0 0 rfl).1, (hf 0 10 k rfl).1, (hf 0 11 k rfl).1, (hf 0 0 22 rfl).1]
theorem m_people_ok (h : InvB σ τ U P Q T R L E) {g : Nat → Int32} {pl : Int32} {τ1 : St} (hf1 : FrM τ τ1) (hg : ∀ p, p < P → τ1.1 0 27 p = g p) : OK (m_findPeople τ1 pl) (MP τ (cpx τ g pl P Q T R) (mml τ g pl Q)) := by
  have hp := h.2.2.1
  have hq := h.2.2.2.1
  have hQ := hq.1
  have hP := hp.1
  have hmm : ∀ τ', FrM τ τ' → ∀ k, mmB τ' g pl k = mmB τ g pl k := fun τ' hf k => by unfold mmB; rw [(hf 0 12 k rfl).1]
  unfold m_findPeople
  rw [lt1_eq, lt1_eq]
  refine OK.bi (OK.mono (R := fun τ2 => FrM τ τ2 ∧ (∀ p, p < P → τ2.1 0 27 p = g p) ∧ τ2.1 0 0 40 = nI (mml τ g pl Q).length ∧ τ2.1 0 0 41 = 0 ∧ ∀ x k, (mml τ g pl Q)[x]? = some k → τ2.1 0 30 x = nI k) ?_ ?_)
  · refine OK.itr Q (fun i s => s.1 = nI i ∧ FrM τ s.2 ∧ (∀ p, p < P → s.2.1 0 27 p = g p) ∧ s.2.1 0 0 40 = nI (mml τ g pl i).length ∧ s.2.1 0 0 41 = 0 ∧ ∀ x k, (mml τ g pl i)[x]? = some k → s.2.1 0 30 x = nI k) ⟨rfl, (hf1.sx rfl).sx rfl, hg, rfl, rfl, fun x k hx => by simp [mml] at hx⟩ (fun i s hi hs' => ?_) (fun s hs' => ?_) (FU_lt (by omega))
    · obtain ⟨i', τ2⟩ := s
      obtain ⟨e1, hf, hg2, h40, h41, hm⟩ := hs'
      simp only at e1 hf hg2 h40 h41 hm ⊢
      subst e1
      have hlen : (mml τ g pl i).length ≤ i := rf_len (mmB τ g pl) i
      have hof := isOf_wk (pl := pl) (h.wk.fr hf) (g := g) hg2 hi
      rw [hmm τ2 hf] at hof
      rw [(hf 0 0 11 rfl).1, hq.2.1, if_pos (nI_lt hi (show Q < 2 ^ 31 by omega)), hof, obs, nI_1]
      have e2 : mml τ g pl (i + 1) = mml τ g pl i ++ (if mmB τ g pl i then [i] else []) := rf_succ (mmB τ g pl) i
      cases hmb : mmB τ g pl i with
      | false =>
        rw [hmb, if_neg (by decide), List.append_nil] at e2
        rw [if_neg (show ¬ (false = true) by decide), if_pos rfl, obs]
        exact OK.so ⟨rfl, hf, hg2, by rw [e2]; exact h40, h41, by rw [e2]; exact hm⟩
      | true =>
        rw [hmb, if_pos rfl] at e2
        rw [if_pos rfl, if_neg (show ¬ (1 : Int32) = 0 by decide), h40, ix_nI (show (mml τ g pl i).length < 40 by omega) (by decide), obs, lt1_eq, lt1_eq, obs]
        have e40 : (sx τ2 0 30 (mml τ g pl i).length (nI i)).1 0 0 40 = nI (mml τ g pl i).length := h40
        rw [e40, nI_1]
        refine OK.so ⟨rfl, (hf.sx rfl).sx rfl, hg2, ?_, h41, fun x k hx => ?_⟩
        · rw [e2]; simp [sx_1]
        · rw [e2] at hx
          show (sx τ2 0 30 (mml τ g pl i).length (nI i)).1 0 30 x = nI k
          rw [sx_1]
          rcases gq_snoc hx with c | ⟨c1, c2⟩
          · have := gq_lt c
            rw [if_neg (fun d => by have := d.2.2; omega)]
            exact hm x k c
          · rw [if_pos ⟨rfl, rfl, c1⟩, c2]
    · obtain ⟨i', τ2⟩ := s
      obtain ⟨e1, hf, hg2, h40, h41, hm⟩ := hs'
      simp only at e1 hf hg2 h40 h41 hm ⊢
      subst e1
      rw [(hf 0 0 11 rfl).1, hq.2.1, if_neg (nI_nlt (Nat.le_refl Q) (show Q < 2 ^ 31 by omega))]
      exact OK.so ⟨hf, hg2, h40, h41, hm⟩
  · rintro τ2 ⟨hf, hg2, h40, h41, hm⟩
    refine OK.bi (OK.mono (R := MP τ (cpx τ g pl P Q T R) (mml τ g pl Q)) ?_ (fun s hs' => OK.so hs'))
    refine OK.itr P (fun i s => s.1 = nI i ∧ FrM τ s.2 ∧ (∀ p, p < P → s.2.1 0 27 p = g p) ∧ s.2.1 0 0 40 = nI (mml τ g pl Q).length ∧ s.2.1 0 0 41 = nI (orw τ g pl i) ∧ ∀ x k, (mml τ g pl Q)[x]? = some k → s.2.1 0 30 x = nI k) ⟨rfl, hf, hg2, h40, h41, hm⟩ (fun i s hi hs' => ?_) (fun s hs' => ?_) (FU_lt (by omega))
    · obtain ⟨i', τ3⟩ := s
      obtain ⟨e1, hf3, hg3, k40, k41, km⟩ := hs'
      simp only at e1 hf3 hg3 k40 k41 km ⊢
      subst e1
      obtain ⟨w, w1, w2⟩ := rg_nI (hi := 1023) (wants_rg hp hi).2
      have e : orw τ g pl (i + 1) = if g i = pl then orw τ g pl i ||| (τ.1 0 7 i).toNatClampNeg else orw τ g pl i := rfl
      rw [(hf3 0 0 4 rfl).1, hp.2.1, if_pos (nI_lt hi (show P < 2 ^ 31 by omega)), ix_nI (show i < 40 by omega) (by decide), obs, obs, hg3 i hi, (hf3 0 7 i rfl).1, nI_1, w2]
      rw [w2, nI_clamp (by omega)] at e
      by_cases c : g i = pl
      · rw [if_pos c] at e
        rw [if_pos c, obs, lt1_eq, k41, nI_or]
        exact OK.so ⟨rfl, hf3.sx rfl, hg3, k40, by rw [e]; simp [sx_1], km⟩
      · rw [if_neg c] at e
        rw [if_neg c, obs, lt1_eq, k41]
        refine OK.so ⟨rfl, hf3.sx rfl, hg3, k40, ?_, km⟩
        rw [e]
        have := nI_or (orw τ g pl i) 0
        rw [Nat.or_zero] at this
        show (sx τ3 0 0 41 (nI (orw τ g pl i) ||| 0)).1 0 0 41 = _
        rw [sx_1, if_pos ⟨rfl, rfl, rfl⟩]
        exact this
    · obtain ⟨i', τ3⟩ := s
      obtain ⟨e1, hf3, hg3, k40, k41, km⟩ := hs'
      simp only at e1 hf3 hg3 k40 k41 km ⊢
      subst e1
      rw [(hf3 0 0 4 rfl).1, hp.2.1, if_neg (nI_nlt (Nat.le_refl P) (show P < 2 ^ 31 by omega))]
      exact OK.so ⟨hf3, k40, k41, km⟩
set_option maxHeartbeats 800000 in
theorem m_mayGo_eq (h : InvB σ τ U P Q T R L E) {g : Nat → Int32} {pl : Int32} {τ1 : St} (hM : (mml τ g pl Q).length ≤ 12) (hP : MP τ (cpx τ g pl P Q T R) (mml τ g pl Q) τ1) {s : Nat} (hs : s < 2 ^ (mml τ g pl Q).length) : m_mayGo τ1 (nI s) = some (if cBar (cpx τ g pl P Q T R) s || anyB (cLack (cpx τ g pl P Q T R) s) 10 then 0 else 1) := by
  obtain ⟨hf, h40, h41, hrow⟩ := hP
  have hq := h.2.2.2.1
  have hq1 := (h.frM hf).2.2.2.1
  have hQ := hq.1
  have hp12 := p12 hM
  have h40' : τ1.1 0 0 40 = nI (mml τ g pl Q).length := h40
  have hwd : (cpx τ g pl P Q T R).2.2.2.2.2.2.1 < 1024 := orw_lt h.2.2.1 g pl P (Nat.le_refl _)
  have hnd : τ1.1 0 0 21 = nI (cpx τ g pl P Q T R).2.2.2.2.2.2.2 ∧ (cpx τ g pl P Q T R).2.2.2.2.2.2.2 ≤ 5 := by
    obtain ⟨n, n1, n2⟩ := rg_nI (hi := 5) h.1.2.2.2.2.2.2.2.1
    show τ1.1 0 0 21 = nI (τ.1 0 0 21).toNatClampNeg ∧ (τ.1 0 0 21).toNatClampNeg ≤ 5
    rw [(hf 0 0 21 rfl).1, n2, nI_clamp (by omega)]
    exact ⟨rfl, n1⟩
  have hmem : ∀ x, x < (mml τ g pl Q).length → ∃ k, (mml τ g pl Q)[x]? = some k ∧ k < Q ∧ memd τ g pl Q x = k ∧ τ1.1 0 30 x = nI k := by
    intro x hx
    have hk : (mml τ g pl Q)[x]? = some (mml τ g pl Q)[x] := List.getElem?_eq_getElem hx
    exact ⟨_, hk, (rf_lt hk).1, memd_eq hk, hrow x _ hk⟩
  -- the second half: skills
  have skl2 : (Option.bind (itr0 (S := Int32) (E := ((Unit) ⊕ (Int32))) (fun s9 => (if s9 < (10 : Int32) then (Option.bind (itr0 (S := Int32 × Int32 × Int32) (E := Int32 × Int32) (fun s17 => (if s17.2.2 < τ1.1 0 0 40 then (Option.bind (ix 40 s17.2.2) fun i25 => (Option.bind (ix 40 (τ1.1 0 30 i25)) fun i26 => (Option.bind (α := Int32) ((if (nI s >>> (s17.2.2 &&& 31)) &&& (1 : Int32) = 0 then some (((τ1.1 0 9 i26) >>> (s9 &&& 31)) &&& (1 : Int32)) else some (0 : Int32))) fun t27 => some (.inl (s17.1 + (((τ1.1 0 9 i26) >>> (s9 &&& 31)) &&& (1 : Int32)), s17.2.1 + t27, s17.2.2 + (1 : Int32)))))) else some (.inr (s17.1, s17.2.1)))) FU ((0 : Int32), (0 : Int32), (0 : Int32))) fun e22 => (if ((τ1.1 0 0 41) >>> (s9 &&& 31)) &&& (1 : Int32) = (1 : Int32) then (if e22.2 < τ1.1 0 0 21 then (if e22.2 < e22.1 then some (.inr (.inr (0 : Int32))) else some (.inl (s9 + (1 : Int32)))) else some (.inl (s9 + (1 : Int32)))) else some (.inl (s9 + (1 : Int32))))) else some (.inr (.inl ())))) FU (0 : Int32)) (Sum.elim (fun e14 => some (1 : Int32)) some)) = some (if anyB (cLack (cpx τ g pl P Q T R) s) 10 then 0 else 1) := by
    have hst : ∀ t, t < 10 → (Option.bind (itr0 (S := Int32 × Int32 × Int32) (E := Int32 × Int32) (fun s17 => (if s17.2.2 < τ1.1 0 0 40 then (Option.bind (ix 40 s17.2.2) fun i25 => (Option.bind (ix 40 (τ1.1 0 30 i25)) fun i26 => (Option.bind (α := Int32) ((if (nI s >>> (s17.2.2 &&& 31)) &&& (1 : Int32) = 0 then some (((τ1.1 0 9 i26) >>> (nI t &&& 31)) &&& (1 : Int32)) else some (0 : Int32))) fun t27 => some (.inl (s17.1 + (((τ1.1 0 9 i26) >>> (nI t &&& 31)) &&& (1 : Int32)), s17.2.1 + t27, s17.2.2 + (1 : Int32)))))) else some (.inr (s17.1, s17.2.1)))) FU ((0 : Int32), (0 : Int32), (0 : Int32))) fun e22 => (if ((τ1.1 0 0 41) >>> (nI t &&& 31)) &&& (1 : Int32) = (1 : Int32) then (if e22.2 < τ1.1 0 0 21 then (if e22.2 < e22.1 then some (Sum.inr (α := Int32) (Sum.inr (α := Unit) (0 : Int32))) else some (.inl (nI t + (1 : Int32)))) else some (.inl (nI t + (1 : Int32)))) else some (.inl (nI t + (1 : Int32))))) = if cLack (cpx τ g pl P Q T R) s t then some (.inr (.inr 0)) else some (.inl (nI (t + 1))) := by
      intro t ht
      have hsl : cStay (cpx τ g pl P Q T R) s t ≤ (mml τ g pl Q).length := cnt_le
      have hal : cAll (cpx τ g pl P Q T R) t ≤ (mml τ g pl Q).length := cnt_le
      refine itr_bd (mml τ g pl Q).length (fun i => (nI (cnt (fun x => (cpx τ g pl P Q T R).2.2.2.2.2.1 t x) i), nI (cnt (fun x => (cpx τ g pl P Q T R).2.2.2.2.2.1 t x && !s.testBit x) i), nI i)) (nI (cAll (cpx τ g pl P Q T R) t), nI (cStay (cpx τ g pl P Q T R) s t)) (FU_lt (by omega)) rfl (fun i hi => ?_) ?_ ?_
      · obtain ⟨k, k1, k2, k3, k4⟩ := hmem i hi
        obtain ⟨sk, sk1, sk2⟩ := rg_nI (hi := 1023) (skills_rg hq k2).2
        have hhB : (cpx τ g pl P Q T R).2.2.2.2.2.1 t i = sk.testBit t := by
          show ((τ.1 0 9 (memd τ g pl Q i)).toNatClampNeg).testBit t = _
          rw [k3, sk2, nI_clamp (by omega)]
        have hbv : nI sk >>> (nI t &&& 31) &&& 1 = (if sk.testBit t then 1 else 0 : Int32) := by
          rw [bitv (by omega) (by omega)]
          have h2 : sk / 2 ^ t % 2 < 2 := Nat.mod_lt _ (by decide)
          cases hb : sk.testBit t with
          | true => rw [tb_iff] at hb; rw [hb]; rfl
          | false =>
            have : ¬ sk / 2 ^ t % 2 = 1 := fun e => by rw [← tb_iff, hb] at e; cases e
            rw [show sk / 2 ^ t % 2 = 0 by omega]; rfl
        simp only [h40', if_pos (nI_lt hi (show (mml τ g pl Q).length < 2 ^ 31 by omega)), ix_nI (show i < 40 by omega) (show 40 < 2 ^ 31 by decide), obs, k4, ix_nI (show k < 40 by omega) (show 40 < 2 ^ 31 by decide), (hf 0 9 k rfl).1, sk2, hbv, cnt_step, hhB, nI_1]
        have hb0 := bit0 (m := s) (u := i) (by omega) (by omega)
        cases hsb : s.testBit i with
        | false =>
          rw [if_pos (hb0.mpr hsb), obs]
          cases sk.testBit t with
          | false => simp
          | true => simp [nI_1]
        | true =>
          rw [if_neg (fun e => by rw [hb0.mp e] at hsb; cases hsb), obs]
          cases sk.testBit t with
          | false => simp
          | true => simp [nI_1]
      · simp only [h40', if_neg (nI_nlt (Nat.le_refl _) (show (mml τ g pl Q).length < 2 ^ 31 by omega))]
        rfl
      · rw [h41, hnd.1]
        have hbit := bitI (m := (cpx τ g pl P Q T R).2.2.2.2.2.2.1) (u := t) (by omega) (by omega)
        unfold cLack
        rw [nI_1]
        cases hw : (cpx τ g pl P Q T R).2.2.2.2.2.2.1.testBit t with
        | false =>
          rw [if_neg (fun e => by rw [hbit.mp e] at hw; cases hw)]
          rfl
        | true =>
          rw [if_pos (hbit.mpr hw), Bool.true_and]
          by_cases c1 : cStay (cpx τ g pl P Q T R) s t < (cpx τ g pl P Q T R).2.2.2.2.2.2.2
          · rw [if_pos (nI_lt c1 (by omega)), decide_eq_true c1, Bool.true_and]
            by_cases c2 : cStay (cpx τ g pl P Q T R) s t < cAll (cpx τ g pl P Q T R) t
            · rw [if_pos (nI_lt c2 (by omega)), decide_eq_true c2]; rfl
            · rw [if_neg (nI_nlt (by omega) (by omega)), decide_eq_false c2]; rfl
          · rw [if_neg (nI_nlt (by omega) (by omega)), decide_eq_false c1]; rfl
    by_cases hx : ∃ t, t < 10 ∧ cLack (cpx τ g pl P Q T R) s t = true
    · rw [anyB_iff.mpr hx]
      obtain ⟨t0, ⟨h1, h2⟩, hmin⟩ := pk_least (fun t => t < 10 ∧ cLack (cpx τ g pl P Q T R) s t = true) hx
      refine itr_bd t0 nI (.inr 0) (FU_lt (by omega)) rfl (fun t ht => ?_) ?_ rfl
      · have hff : cLack (cpx τ g pl P Q T R) s t = false := by
          cases hc : cLack (cpx τ g pl P Q T R) s t with
          | false => rfl
          | true => exact absurd ⟨by omega, hc⟩ (hmin t ht)
        rw [if_pos (show nI t < 10 from nI_lt (b := 10) (by omega) (by decide)), hst t (by omega), hff]
        rfl
      · rw [if_pos (show nI t0 < 10 from nI_lt (b := 10) h1 (by decide)), hst t0 h1, h2]
        rfl
    · have hff : anyB (cLack (cpx τ g pl P Q T R) s) 10 = false := by
        cases hc : anyB (cLack (cpx τ g pl P Q T R) s) 10 with
        | false => rfl
        | true => exact absurd (anyB_iff.mp hc) hx
      rw [hff]
      refine itr_bd 10 nI (.inl ()) (FU_lt (by omega)) rfl (fun t ht => ?_) ?_ rfl
      · have hfl : cLack (cpx τ g pl P Q T R) s t = false := by
          cases hc : cLack (cpx τ g pl P Q T R) s t with
          | false => rfl
          | true => exact absurd ⟨t, ht, hc⟩ hx
        rw [if_pos (show nI t < 10 from nI_lt (b := 10) (by omega) (by decide)), hst t ht, hfl]
        rfl
      · rw [if_neg (show ¬ nI 10 < 10 by decide)]
  -- the first: the guarded
  have hst1 : ∀ x, x < (mml τ g pl Q).length → (Option.bind (ix 40 (nI x)) fun i30 => (if (nI s >>> (nI x &&& 31)) &&& (1 : Int32) = (1 : Int32) then (Option.bind (m_isGuarded τ1 (τ1.1 0 30 i30)) fun r31 => (if r31 = 0 then some (Sum.inl (β := Unit ⊕ Int32) (nI x + (1 : Int32))) else (Option.bind (ix 40 (τ1.1 0 30 i30)) fun i33 => (if τ1.1 0 16 i33 < 0 then some (.inr (.inr (0 : Int32))) else some (.inl (nI x + (1 : Int32))))))) else some (.inl (nI x + (1 : Int32))))) = if (s.testBit x && ((cpx τ g pl P Q T R).2.2.2.2.1 x && !(cpx τ g pl P Q T R).2.2.2.1 x)) = true then some (.inr (.inr 0)) else some (.inl (nI (x + 1))) := by
    intro x hx
    obtain ⟨k, k1, k2, k3, k4⟩ := hmem x hx
    have hgu := guard_eq hq1 k2
    rw [(hf 0 15 k rfl).1, (hf 0 0 0 rfl).1] at hgu
    have hvB : (cpx τ g pl P Q T R).2.2.2.1 x = decide (¬ τ.1 0 16 k < 0) := by
      show decide (¬ τ.1 0 16 (memd τ g pl Q x) < 0) = _
      rw [k3]
    have hgB : (cpx τ g pl P Q T R).2.2.2.2.1 x = decide (¬ τ.1 0 15 k < τ.1 0 0 0) := by
      show decide (¬ τ.1 0 15 (memd τ g pl Q x) < τ.1 0 0 0) = _
      rw [k3]
    rw [ix_nI (show x < 40 by omega) (by decide), obs, k4, hgu, obs, ix_nI (show k < 40 by omega) (by decide), obs, (hf 0 16 k rfl).1, nI_1, hvB, hgB]
    have hbit := bitI (m := s) (u := x) (by omega) (by omega)
    cases hsb : s.testBit x with
    | false =>
      rw [if_neg (fun e => by rw [hbit.mp e] at hsb; cases hsb)]
      rfl
    | true =>
      rw [if_pos (hbit.mpr hsb), Bool.true_and]
      by_cases cg : τ.1 0 15 k < τ.1 0 0 0
      · rw [decide_eq_true cg, decide_eq_false (show ¬ ¬ τ.1 0 15 k < τ.1 0 0 0 from fun x => x cg)]
        rfl
      · rw [decide_eq_false cg, decide_eq_true (show ¬ τ.1 0 15 k < τ.1 0 0 0 from cg), if_neg (show ¬ (false = true) by decide), if_neg (show ¬ (1 : Int32) = 0 by decide), Bool.true_and]
        by_cases cv : τ.1 0 16 k < 0
        · rw [if_pos cv, decide_eq_false (show ¬ ¬ τ.1 0 16 k < 0 from fun x => x cv)]; rfl
        · rw [if_neg cv, decide_eq_true (show ¬ τ.1 0 16 k < 0 from cv)]; rfl
  unfold m_mayGo
  by_cases hx : ∃ x, x < (mml τ g pl Q).length ∧ (s.testBit x && ((cpx τ g pl P Q T R).2.2.2.2.1 x && !(cpx τ g pl P Q T R).2.2.2.1 x)) = true
  · have hbt : cBar (cpx τ g pl P Q T R) s = true := anyB_iff.mpr hx
    rw [hbt, Bool.true_or]
    obtain ⟨x0, ⟨h1, h2⟩, hmin⟩ := pk_least (fun x => x < (mml τ g pl Q).length ∧ (s.testBit x && ((cpx τ g pl P Q T R).2.2.2.2.1 x && !(cpx τ g pl P Q T R).2.2.2.1 x)) = true) hx
    refine itr_bd x0 nI (.inr 0) (FU_lt (by omega)) rfl (fun x hxx => ?_) ?_ rfl
    · rw [h40', if_pos (nI_lt (show x < (mml τ g pl Q).length by omega) (by omega)), hst1 x (by omega), if_neg (fun c => hmin x hxx ⟨by omega, c⟩)]
    · rw [h40', if_pos (nI_lt h1 (by omega)), hst1 x0 h1, if_pos h2]
  · have hbt : cBar (cpx τ g pl P Q T R) s = false := by
      cases hc : cBar (cpx τ g pl P Q T R) s with
      | false => rfl
      | true => exact absurd (anyB_iff.mp hc) hx
    rw [hbt, Bool.false_or]
    refine itr_bd (mml τ g pl Q).length nI (.inl ()) (FU_lt (by omega)) rfl (fun x hxx => ?_) ?_ skl2
    · rw [h40', if_pos (nI_lt hxx (by omega)), hst1 x hxx, if_neg (fun c => hx ⟨x, hxx, c⟩)]
    · rw [h40', if_neg (nI_nlt (Nat.le_refl _) (by omega))]
end ChoiceM
