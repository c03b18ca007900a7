/-! ===== choice: the class ===== -/
def cLst (c : CP) (t : Nat) : Nat := if c.2.2.2.2.2.2.1.testBit t then min c.2.2.2.2.2.2.2 (cAll c t) else 0
/-- all is gathered -/
def GF (σ : St) (c : CP) (σ' : St) : Prop := GC σ c c.1 σ' ∧ ∀ t, t < 10 → σ'.1 0 25 t = nI (cLst c t)
theorem mkm_cnt (p : Nat → Bool) {M : Nat} (h : M ≤ 12) : pc (mkm p M) = cnt p M := by
  rw [pc_cnt, cnt_ext (m := M) h (fun i h1 h2 => by rw [mkm_tb, decide_eq_false (by omega)]; rfl)]
  exact cnt_cong (fun i hi => by rw [mkm_tb, decide_eq_true hi]; rfl)
theorem nI_min {a b : Nat} (ha : a < 2 ^ 31) (hb : b < 2 ^ 31) : (if nI a < nI b then nI a else nI b) = nI (min b a) := by
  rw [lmin ha hb, Nat.min_comm]
theorem shl_x' {x : Nat} (hx : x ≤ 12) : (1 : Int32) <<< (nI x &&& 31) = nI (2 ^ x) := shl1 (by omega)
section Choose
variable {σ τ : St} {U P Q T R L E : Nat}
theorem p_cgather_ok (h : InvB σ τ U P Q T R L E) {g : Nat → Int32} {pl : Int32} {σ1 τ1 : St} (hT : TK σ τ P Q g pl σ1 τ1) (hM : (mml τ g pl Q).length ≤ 12) : OK (p_Chooser_gather σ1) (GF σ1 (cpx τ g pl P Q T R)) := by
  obtain ⟨t1, t2, t3, t4, t5, t6⟩ := hT
  replace h := h.frC t1
  have hnd : τ.1 0 0 21 = nI (cpx τ g pl P Q T R).2.2.2.2.2.2.2 ∧ (cpx τ g pl P Q T R).2.2.2.2.2.2.2 ≤ 5 := by
    obtain ⟨n, n1, n2⟩ := rg_nI (hi := 5) h.1.2.2.2.2.2.2.2.1
    show τ.1 0 0 21 = nI (τ.1 0 0 21).toNatClampNeg ∧ (τ.1 0 0 21).toNatClampNeg ≤ 5
    rw [n2, nI_clamp (by omega)]
    exact ⟨rfl, n1⟩
  have hwd : (cpx τ g pl P Q T R).2.2.2.2.2.2.1 = orw τ g pl P := rfl
  have hc1 : (cpx τ g pl P Q T R).1 = (mml τ g pl Q).length := rfl
  unfold p_Chooser_gather
  rw [lt1_eq, lt1_eq, lt1_eq, t5, if_neg (show ¬ (12 : Int32) < nI (mml τ g pl Q).length from nI_nlt (a := 12) hM (by decide)), fill_eq _ 24 10 0 (by decide), obs]
  have hf0 : FrH σ1 (fl (sx (sx (sx σ1 0 4 5 (nI (mml τ g pl Q).length)) 0 4 6 0) 0 4 7 0) 24 10 0) := ((((Fr.refl σ1).sx rfl).sx rfl).sx rfl).fl (fun k _ => rfl)
  refine OK.bi (OK.mono (R := fun σ2 => GC σ1 (cpx τ g pl P Q T R) (mml τ g pl Q).length σ2 ∧ (∀ d j x, (j ≠ 4 ∧ j ≠ 22 ∧ j ≠ 23 ∧ j ≠ 24) → σ2.1 d j x = σ1.1 d j x) ∧ σ2.2 = σ1.2) ?_ ?_)
  · refine OK.itr (mml τ g pl Q).length (fun i s => s.1 = nI i ∧ GC σ1 (cpx τ g pl P Q T R) i s.2 ∧ (∀ d j x, (j ≠ 4 ∧ j ≠ 22 ∧ j ≠ 23 ∧ j ≠ 24) → s.2.1 d j x = σ1.1 d j x) ∧ s.2.2 = σ1.2) ⟨rfl, ⟨hf0, rfl, rfl, rfl, fun t ht => ?_, fun x hx => by omega⟩, fun d j x hj => ?_, rfl⟩ (fun i s hi hs' => ?_) (fun s hs' => ?_) (FU_lt (by omega))
    · show (fl _ 24 10 0).1 0 24 t = _
      rw [fl_1, if_pos ⟨rfl, rfl, ht⟩]
      rfl
    · show (fl _ 24 10 0).1 d j x = _
      rw [fl_1, if_neg (fun e => hj.2.2.2 e.2.1), sx_1, if_neg (fun e => hj.1 e.2.1), sx_1, if_neg (fun e => hj.1 e.2.1), sx_1, if_neg (fun e => hj.1 e.2.1)]
    · obtain ⟨i', σ2⟩ := s
      obtain ⟨e1, hG, ho1, ho2⟩ := hs'
      simp only at e1 hG ho1 ho2 ⊢
      subst e1
      obtain ⟨k, hk⟩ : ∃ k, (mml τ g pl Q)[i]? = some k := ⟨(mml τ g pl Q)[i], List.getElem?_eq_getElem hi⟩
      have m6 : σ2.1 0 2 6 = nI (mml τ g pl Q).length := by rw [ho1 0 2 6 (by decide)]; exact t5
      rw [hG.2.1, hc1, if_pos (nI_lt hi (by omega)), p_member_eq (by omega) m6 (fun x k hx => by rw [ho2]; exact t6 x k hx) hk, obs, oes]
      obtain ⟨σ3, k1, k2, k3, k4⟩ := p_gone_ok h (show i < 12 by omega) hk hG
      rw [k1, obs, obs, nI_1]
      exact OK.so ⟨rfl, k2, fun d j x hj => by rw [k3 d j x hj, ho1 d j x hj], by rw [k4, ho2]⟩
    · obtain ⟨i', σ2⟩ := s
      obtain ⟨e1, hG, ho1, ho2⟩ := hs'
      simp only at e1 hG ho1 ho2 ⊢
      subst e1
      rw [hG.2.1, hc1, if_neg (nI_nlt (Nat.le_refl _) (by omega))]
      exact OK.so ⟨hG, ho1, ho2⟩
  · rintro σ2 ⟨hG, ho1, ho2⟩
    rw [p_wanted_eq h (FrH.toC hG.1) (g := g) (pl := pl) (fun p hp => by rw [ho1 0 15 p (by decide)]; exact (t3 p hp).1) (by rw [ho1 0 2 4 (by decide)]; exact t4), obs, ← hwd]
    have hwlt : (cpx τ g pl P Q T R).2.2.2.2.2.2.1 < 1024 := orw_lt h.2.2.1 g pl P (Nat.le_refl _)
    rw [← hc1] at hG hM
    generalize cpx τ g pl P Q T R = c at *
    refine OK.bi (OK.mono (R := GF σ1 c) ?_ (fun s hs' => OK.so hs'))
    unfold p_Chooser_gatherLeast
    refine OK.bi (OK.mono (R := GF σ1 c) ?_ (fun s hs' => OK.so hs'))
    refine OK.itr 10 (fun t s => s.1 = nI t ∧ GC σ1 c c.1 s.2 ∧ ∀ t', t' < t → s.2.1 0 25 t' = nI (cLst c t')) ⟨rfl, hG, fun t' ht' => by omega⟩ (fun t s ht hs' => ?_) (fun s hs' => ?_) (FU_lt (by decide))
    · obtain ⟨t', σ3⟩ := s
      obtain ⟨e1, hG3, hl⟩ := hs'
      simp only at e1 hG3 hl ⊢
      subst e1
      obtain ⟨g1, g2, g3, g4, g5, g6⟩ := hG3
      have hbit := bitI (m := c.2.2.2.2.2.2.1) (u := t) (by omega) (by omega)
      have h14 : σ3.1 0 14 1 = nI c.2.2.2.2.2.2.2 := by rw [(g1 0 14 1 rfl).1, h.1.2.2.2.2.1, hnd.1]
      have hml := mkm_lt (c.2.2.2.2.2.1 t) c.1
      have hp12 := p12 hM
      have hall : cAll c t ≤ c.1 := cnt_le
      have hbc : j_Integer_bitCount (σ3.1 0 24 t) = some (nI (cAll c t)) := by
        rw [g5 t ht, bc_eq (by omega), mkm_cnt _ hM]
        rfl
      rw [if_pos (show nI t < 10 from nI_lt (b := 10) ht (by decide))]
      have fin : ∀ v : Int32, v = nI (cLst c t) → OK ((ix 10 (nI t)).bind fun i15 => lt1 (sx σ3 0 25 i15 v) fun σ16 => some (Sum.inl (β := St) (nI t + 1, σ16))) (fun x => Sum.elim (fun s : Int32 × St => s.1 = nI (t + 1) ∧ GC σ1 c c.1 s.2 ∧ ∀ t', t' < t + 1 → s.2.1 0 25 t' = nI (cLst c t')) (GF σ1 c) x) := by
        intro v hv
        rw [ix_nI ht (by decide), obs, lt1_eq, nI_1]
        refine OK.so ⟨rfl, ⟨g1.sx rfl, g2, g3, g4, g5, g6⟩, fun t' ht' => ?_⟩
        show (sx σ3 0 25 t v).1 0 25 t' = _
        rw [sx_1]
        by_cases e : t' = t
        · subst e; rw [if_pos ⟨rfl, rfl, rfl⟩, hv]
        · rw [if_neg (fun x => e x.2.2)]
          exact hl t' (by omega)
      by_cases cb : c.2.2.2.2.2.2.1.testBit t = true
      · rw [if_pos (hbit.mpr cb), obs, if_neg (show ¬ (1 : Int32) = 0 by decide), show ix 3 (1 : Int32) = some 1 from rfl, obs, ix_nI ht (by decide), obs, hbc, obs, obs, h14, nI_min (by omega) (by omega)]
        have := fin _ (show nI (min c.2.2.2.2.2.2.2 (cAll c t)) = nI (cLst c t) by unfold cLst; rw [if_pos cb])
        rw [ix_nI ht (by decide)] at this
        exact this
      · rw [if_neg (fun e => cb (hbit.mp e)), obs, if_pos rfl, obs]
        exact fin 0 (by unfold cLst; rw [if_neg cb]; rfl)
    · obtain ⟨t', σ3⟩ := s
      obtain ⟨e1, hG3, hl⟩ := hs'
      simp only at e1 hG3 hl ⊢
      subst e1
      rw [if_neg (show ¬ nI 10 < 10 by decide)]
      exact OK.so ⟨hG3, hl⟩
/-- skills are kept -/
theorem p_keeps_eq {c : CP} (hM : c.1 ≤ 12) {σ' : St} (hG : GF σ c σ') {s : Nat} (hs : s < 2 ^ c.1) : p_Chooser_keepsSkills σ' (nI s) = some (if anyB (cLack c s) 10 then 0 else 1) := by
  obtain ⟨⟨g1, g2, g3, g4, g5, g6⟩, hl⟩ := hG
  have hp12 := p12 hM
  have hst : ∀ t, t < 10 → (Option.bind (ix 10 (nI t)) fun i9 => (Option.bind (j_Integer_bitCount ((σ'.1 0 24 i9) &&& (nI s ^^^ (-1 : Int32)))) fun r10 => (Option.bind (ix 10 (nI t)) fun i12 => (if r10 < σ'.1 0 25 i12 then some (Sum.inr (α := Int32) (Sum.inr (α := Unit) (0 : Int32))) else some (Sum.inl (nI t + (1 : Int32))))))) = if cLack c s t then some (.inr (.inr 0)) else some (.inl (nI (t + 1))) := by
    intro t ht
    have hml := mkm_lt (c.2.2.2.2.2.1 t) c.1
    rw [ix_nI ht (by decide), obs, g5 t ht, bc_andnot (by omega) (by omega), obs, obs, hl t ht, nI_1]
    have e : cnt (fun x => (mkm (c.2.2.2.2.2.1 t) c.1).testBit x && !s.testBit x) 12 = cStay c s t := by
      rw [cnt_ext (m := c.1) hM (fun i h1 h2 => by rw [mkm_tb, decide_eq_false (by omega)]; rfl)]
      exact cnt_cong (fun i hi => by rw [mkm_tb, decide_eq_true hi]; rfl)
    rw [e]
    have hsl : cStay c s t ≤ c.1 := cnt_le
    have hal : cAll c t ≤ c.1 := cnt_le
    unfold cLst cLack
    cases hw : c.2.2.2.2.2.2.1.testBit t with
    | false => rw [if_neg (show ¬ (false = true) by decide), if_neg (show ¬ nI (cStay c s t) < nI 0 from nI_nlt (by omega) (by omega))]; rfl
    | true =>
      rw [if_pos rfl, Bool.true_and]
      by_cases c1 : cStay c s t < min c.2.2.2.2.2.2.2 (cAll c t)
      · rw [if_pos (nI_lt c1 (by omega)), decide_eq_true (show cStay c s t < c.2.2.2.2.2.2.2 by omega), decide_eq_true (show cStay c s t < cAll c t by omega)]
        rfl
      · rw [if_neg (nI_nlt (by omega) (by omega))]
        by_cases c2 : cStay c s t < c.2.2.2.2.2.2.2
        · rw [decide_eq_false (show ¬ cStay c s t < cAll c t by omega), Bool.and_false]; rfl
        · rw [decide_eq_false c2, Bool.false_and]; rfl
  unfold p_Chooser_keepsSkills
  by_cases hx : ∃ t, t < 10 ∧ cLack c s t = true
  · rw [anyB_iff.mpr hx]
    obtain ⟨t0, ⟨h1, h2⟩, hmin⟩ := pk_least (fun t => t < 10 ∧ cLack c s t = true) hx
    refine itr_bd t0 nI (.inr 0) (FU_lt (by omega)) rfl (fun t ht => ?_) ?_ rfl
    · have hf : cLack c s t = false := by
        cases hc : cLack c s t with
        | false => rfl
        | true => exact absurd ⟨by omega, hc⟩ (hmin t ht)
      rw [if_pos (show nI t < 10 from nI_lt (b := 10) (by omega) (by decide)), hst t (by omega), hf]
      rfl
    · rw [if_pos (show nI t0 < 10 from nI_lt (b := 10) h1 (by decide)), hst t0 h1, h2]
      rfl
  · have hf : anyB (cLack c s) 10 = false := by
      cases hc : anyB (cLack c s) 10 with
      | false => rfl
      | true => exact absurd (anyB_iff.mp hc) hx
    rw [hf]
    refine itr_bd 10 nI (.inl ()) (FU_lt (by omega)) rfl (fun t ht => ?_) ?_ rfl
    · have hf : cLack c s t = false := by
        cases hc : cLack c s t with
        | false => rfl
        | true => exact absurd ⟨t, ht, hc⟩ hx
      rw [if_pos (show nI t < 10 from nI_lt (b := 10) (by omega) (by decide)), hst t ht, hf]
      rfl
    · rw [if_neg (show ¬ nI 10 < 10 by decide)]
theorem p_together_eq {σ' : St} {M : Nat} (hM : M ≤ 12) (h45 : σ'.1 0 4 5 = nI M) {a : Nat} {f : Nat → Int32} (hf : ∀ x, x < M → σ'.1 0 a x = f x) {s : Nat} (hs : s < 2 ^ M) : p_Chooser_together σ' a (nI s) = some (tsum f s M) := by
  have hp12 := p12 hM
  unfold p_Chooser_together
  refine itr_bd M (fun i => (tsum f s i, nI i)) (tsum f s M) (FU_lt (by omega)) rfl (fun i hi => ?_) ?_ rfl
  · simp only [h45, if_pos (nI_lt hi (show M < 2 ^ 31 by omega)), if_pos (show nI i < 12 from nI_lt (b := 12) (by omega) (by decide)), ix_nI (show i < 12 by omega) (show 12 < 2 ^ 31 by decide), obs, hf i hi, nI_1]
    have hbit := bitI (m := s) (u := i) (by omega) (by omega)
    have e : tsum f s (i + 1) = if s.testBit i then tsum f s i + f i else tsum f s i := rfl
    rw [e]
    by_cases cb : s.testBit i = true
    · rw [if_pos (hbit.mpr cb), cb, obs, if_pos rfl]
    · rw [if_neg (fun x => cb (hbit.mp x)), if_neg cb, obs]
  · simp only [h45, if_neg (nI_nlt (Nat.le_refl M) (show M < 2 ^ 31 by omega))]
/-- the best so far -/
def WB (c : CP) (o : Option Nat) (σ' : St) : Prop := Option.elim o (σ'.1 0 4 10 = 0) (fun b => σ'.1 0 4 10 = 1 ∧ σ'.1 0 4 8 = nI b ∧ σ'.1 0 4 11 = nI (cFor c b) ∧ σ'.1 0 4 12 = tsum c.2.1 b c.1 ∧ σ'.1 0 4 9 = tsum c.2.2.1 b c.1)
theorem p_weigh_ok {c : CP} (hM : c.1 ≤ 12) {σ' : St} (hG : GF σ c σ') {o : Option Nat} (hW : WB c o σ') {s : Nat} (hs : s < 2 ^ c.1) : OK (p_Chooser_weigh σ' (nI s)) (fun σ'' => GF σ c σ'' ∧ WB c (cUpd c s o) σ'') := by
  obtain ⟨⟨g1, g2, g3, g4, g5, g6⟩, hl⟩ := id hG
  have hp12 := p12 hM
  have hml := mkm_lt c.2.2.2.1 c.1
  have hfor : j_Integer_bitCount (nI s &&& ((σ'.1 0 4 7) ^^^ (-1 : Int32))) = some (nI (cFor c s)) := by
    rw [g4, bc_andnot (by omega) (by omega)]
    congr 2
    rw [cnt_ext (m := c.1) hM (fun i h1 h2 => by rw [tb_high hs h1]; rfl)]
    exact cnt_cong (fun i hi => by rw [mkm_tb, decide_eq_true hi]; rfl)
  have hcf : cFor c s ≤ c.1 := cnt_le
  have t1 := p_together_eq hM g2 (a := 22) (f := c.2.1) (fun x hx => (g6 x hx).1) hs
  have t2 := p_together_eq hM g2 (a := 23) (f := c.2.2.1) (fun x hx => (g6 x hx).2) hs
  unfold p_Chooser_weigh
  simp only [hfor, obs, t1, t2, lt1_eq]
  have upd : OK (some (sx (sx (sx (sx (sx σ' 0 4 10 1) 0 4 8 (nI s)) 0 4 11 (nI (cFor c s))) 0 4 12 (tsum c.2.1 s c.1)) 0 4 9 (tsum c.2.2.1 s c.1))) (fun σ'' => GF σ c σ'' ∧ WB c (some s) σ'') := by
    refine OK.so ⟨⟨⟨((((g1.sx rfl).sx rfl).sx rfl).sx rfl).sx rfl, g2, g3, g4, g5, g6⟩, hl⟩, ?_⟩
    exact ⟨by simp [sx_1], by simp [sx_1], by simp [sx_1], by simp [sx_1], by simp [sx_1]⟩
  cases o with
  | none =>
    have h10 : σ'.1 0 4 10 = 0 := hW
    rw [if_pos h10, if_pos h10, cUpd_n]
    exact upd
  | some b =>
    obtain ⟨w1, w2, w3, w4, w5⟩ := id hW
    have hcb : cFor c b ≤ c.1 := cnt_le
    have h10 : ¬ σ'.1 0 4 10 = 0 := by rw [w1]; decide
    rw [if_neg h10, if_neg h10, w3, w4, w5]
    by_cases c1 : cFor c b < cFor c s
    · have hb : ¬ cBet c s b = true := fun e => by have := of_decide_eq_true e; omega
      rw [if_pos (nI_lt c1 (by omega)), cUpd_f hb]
      exact OK.so ⟨hG, hW⟩
    · rw [if_neg (nI_nlt (by omega) (by omega))]
      by_cases c2 : cFor c s < cFor c b
      · have hb : cBet c s b = true := decide_eq_true (Or.inl c2)
        rw [if_pos (nI_lt c2 (by omega)), cUpd_t hb]
        exact upd
      · have c3 : cFor c s = cFor c b := by omega
        rw [if_neg (nI_nlt (by omega) (by omega))]
        by_cases c4 : tsum c.2.1 s c.1 < tsum c.2.1 b c.1
        · have hb : cBet c s b = true := decide_eq_true (Or.inr ⟨c3, Or.inl c4⟩)
          rw [if_pos c4, cUpd_t hb]
          exact upd
        · rw [if_neg c4]
          by_cases c5 : tsum c.2.1 s c.1 = tsum c.2.1 b c.1
          · rw [if_pos c5]
            by_cases c6 : tsum c.2.2.1 s c.1 < tsum c.2.2.1 b c.1
            · have hb : cBet c s b = true := decide_eq_true (Or.inr ⟨c3, Or.inr ⟨c5, c6⟩⟩)
              rw [if_pos c6, cUpd_t hb]
              exact upd
            · have hb : ¬ cBet c s b = true := fun e => (of_decide_eq_true e).elim (fun x => c2 x) (fun x => x.2.elim c4 (fun y => c6 y.2))
              rw [if_neg c6, cUpd_f hb]
              exact OK.so ⟨hG, hW⟩
          · have hb : ¬ cBet c s b = true := fun e => (of_decide_eq_true e).elim (fun x => c2 x) (fun x => x.2.elim c4 (fun y => c5 y.1))
            rw [if_neg c5, cUpd_f hb]
            exact OK.so ⟨hG, hW⟩
theorem p_choose_ok {c : CP} (hM : c.1 ≤ 12) {σ1 : St} (hG : GF σ c σ1) {n : Nat} (hn : n ≤ c.1) : OK (p_Chooser_choose σ1 (nI n)) (fun σ' => GF σ c σ' ∧ WB c (cBst c n (2 ^ c.1)) σ') := by
  have hp12 := p12 hM
  unfold p_Chooser_choose
  rw [lt1_eq]
  obtain ⟨⟨g1, g2, g3, g4, g5, g6⟩, hl⟩ := id hG
  refine OK.bi (OK.mono (R := fun σ' => GF σ c σ' ∧ WB c (cBst c n (2 ^ c.1)) σ') ?_ (fun s hs' => OK.so hs'))
  refine OK.itr (2 ^ c.1) (fun s st => st.1 = nI s ∧ GF σ c st.2 ∧ WB c (cBst c n s) st.2) ⟨rfl, ⟨⟨g1.sx rfl, g2, g3, g4, g5, g6⟩, hl⟩, by show (sx σ1 0 4 10 0).1 0 4 10 = 0; simp [sx_1]⟩ (fun s st hs hs' => ?_) (fun st hs' => ?_) (FU_lt (by omega))
  · obtain ⟨s', σ2⟩ := st
    obtain ⟨e1, hG2, hW2⟩ := hs'
    simp only at e1 hG2 hW2 ⊢
    subst e1
    obtain ⟨⟨k1, k2, k3, k4, k5, k6⟩, kl⟩ := id hG2
    have hpl := pc_le s
    rw [k2, shl_x' hM, if_pos (nI_lt hs (by omega)), bc_eq (by omega), obs, nI_1]
    have hst : cBst c n (s + 1) = if cOk c n s then cUpd c s (cBst c n s) else cBst c n s := rfl
    rw [hst]
    have keep : cOk c n s = false → OK (some (Sum.inl (β := St) (nI (s + 1), σ2))) (fun x => Sum.elim (fun st : Int32 × St => st.1 = nI (s + 1) ∧ GF σ c st.2 ∧ WB c (if cOk c n s = true then cUpd c s (cBst c n s) else cBst c n s) st.2) (fun σ' => GF σ c σ' ∧ WB c (cBst c n (2 ^ c.1)) σ') x) := by
      intro hk
      rw [hk]
      exact OK.so ⟨rfl, hG2, hW2⟩
    by_cases c1 : pc s = n
    · rw [if_pos (by rw [c1])]
      have hmb := mkm_lt (fun x => c.2.2.2.2.1 x && !c.2.2.2.1 x) c.1
      rw [k3]
      have hbar : (nI s &&& nI (mkm (fun x => c.2.2.2.2.1 x && !c.2.2.2.1 x) c.1) = 0) ↔ cBar c s = false := by
        rw [and0_iff (by omega) (by omega)]
        constructor
        · intro hh
          cases hc : cBar c s with
          | false => rfl
          | true =>
            obtain ⟨x, x1, x2⟩ := anyB_iff.mp hc
            rw [Bool.and_eq_true] at x2
            exact absurd ⟨x2.1, by rw [mkm_tb, decide_eq_true x1, Bool.true_and]; exact x2.2⟩ (hh x (by omega))
        · intro hh x hx hc
          rw [mkm_tb, Bool.and_eq_true, decide_eq_true_iff] at hc
          have : cBar c s = true := anyB_iff.mpr ⟨x, hc.2.1, by rw [hc.1, Bool.true_and]; exact hc.2.2⟩
          rw [hh] at this; cases this
      by_cases c2 : cBar c s = false
      · rw [if_pos (hbar.mpr c2), p_keeps_eq hM hG2 hs, obs]
        cases c3 : anyB (cLack c s) 10 with
        | true =>
          rw [if_pos rfl, if_pos rfl, obs]
          exact keep (by unfold cOk; rw [c3]; simp)
        | false =>
          rw [if_neg (show ¬ (false = true) by decide), if_neg (show ¬ (1 : Int32) = 0 by decide)]
          have hok : cOk c n s = true := by unfold cOk; rw [decide_eq_true c1, c2, c3]; rfl
          obtain ⟨σ3, z1, z2, z3⟩ := p_weigh_ok hM hG2 hW2 hs
          rw [z1, obs, obs, hok]
          exact OK.so ⟨rfl, z2, z3⟩
      · rw [if_neg (fun e => c2 (hbar.mp e)), obs]
        have c2' : cBar c s = true := by simpa using c2
        exact keep (by unfold cOk; rw [c2']; simp)
    · rw [if_neg (fun e => c1 (nI_inj (by omega) (by omega) e)), obs]
      exact keep (by unfold cOk; rw [decide_eq_false c1]; rfl)
  · obtain ⟨s', σ2⟩ := st
    obtain ⟨e1, hG2, hW2⟩ := hs'
    simp only at e1 hG2 hW2 ⊢
    subst e1
    rw [hG2.1.2.1, shl_x' hM, if_neg (nI_nlt (Nat.le_refl _) (by omega))]
    exact OK.so ⟨hG2, hW2⟩
end Choose
