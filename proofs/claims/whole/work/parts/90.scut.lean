/-! ===== cut ===== -/
theorem lmin {m n : Nat} (hm : m < 2 ^ 31) (hn : n < 2 ^ 31) : (if nI m < nI n then nI m else nI n) = nI (min m n) := by
  by_cases h : m < n
  · rw [if_pos (nI_lt h hn), Nat.min_eq_left (by omega)]
  · rw [if_neg (nI_nlt (by omega) hm), Nat.min_eq_right (by omega)]
theorem rk_lt {f c : Nat → Int32} {l el : List Nat} (hp : l.Perm el) (hw : l.Pairwise (fun a b => ltK f c a b = true)) {k : Nat} (hk : k ∈ el) : ∃ x, l[x]? = some k ∧ el.countP (fun j => ltK f c j k) = x := by
  obtain ⟨x, hx⟩ := List.mem_iff_getElem?.mp (hp.mem_iff.mpr hk)
  exact ⟨x, hx, by rw [cnt_of_perm hp]; exact rank_eq hw hx⟩
theorem p_goesAt_eq {σ τ : St} {U P Q T R L E : Nat} (h : InvB σ τ U P Q T R L E) {el l : List Nat} {f : Nat → Int32} {σ' : St} (hR : RG σ el f σ') (hlen : el.length ≤ 40) (hQ' : ∀ x k : Nat, el[x]? = some k → k < Q) (hp : l.Perm el) (hw : l.Pairwise (fun a b => ltK f (τ.1 0 10) a b = true)) {m : Nat} (hm : m ≤ 40) {x : Nat} (hx : x < 2 ^ 31) : p_Ranks_goesAt σ' (nI m) (nI x) = some (if x < m then Option.elim l[x]? (-9) nI else -9) := by
  obtain ⟨hf, h35, hrow⟩ := hR
  have hq' := (h.frC hf).2.2.2.1
  unfold p_Ranks_goesAt
  rw [if_neg (nI_pos hx)]
  by_cases hxm : x < m
  · rw [if_pos (nI_lt hxm (by omega)), if_pos hxm]
    have hk : OK (itr0 (S := Int32) (E := ((Unit) ⊕ (Int32))) (fun s1 => (if s1 < σ'.1 0 3 5 then (Option.bind (ix 40 s1) fun i11 => lt1 (σ'.2 0 18 i11) fun x9 => (Option.elim x9 (some (.inl (s1 + (1 : Int32)))) fun q12 => (Option.bind (p_Ranks_ahead σ' 19 s1) fun r14 => (if r14 = nI x then some (.inr (.inr (σ'.1 2 q12 0))) else some (.inl (s1 + (1 : Int32))))))) else some (.inr (.inl ())))) FU (0 : Int32)) (fun e => e = Option.elim l[x]? (.inl ()) (fun k => .inr (nI k))) := by
      refine OK.itr el.length (fun i s => s = nI i ∧ ∀ y j, y < i → el[y]? = some j → el.countP (fun j' => ltK f (τ.1 0 10) j' j) ≠ x) ⟨rfl, fun y j hy => by omega⟩ (fun i s hi hs' => ?_) (fun s hs' => ?_) (FU_lt (by omega))
      · obtain ⟨e1, hI⟩ := hs'
        subst e1
        obtain ⟨j, hj⟩ : ∃ j, el[i]? = some j := ⟨el[i], List.getElem?_eq_getElem hi⟩
        have hcl : el.countP (fun j' => ltK f (τ.1 0 10) j' j) ≤ el.length := List.countP_le_length
        simp only [h35, if_pos (nI_lt hi (show el.length < 2 ^ 31 by omega)), ix_nI (show i < 40 by omega) (show 40 < 2 ^ 31 by decide), obs, lt1_eq, (hrow i j hj).1, oes, p_ahead_eq h hf hlen hQ' h35 (fun x k hx => (hrow x k hx).1) (fun x k hx => (hrow x k hx).2) hj, nI_1]
        by_cases c : el.countP (fun j' => ltK f (τ.1 0 10) j' j) = x
        · rw [if_pos (by rw [c])]
          refine OK.so ?_
          show _ = _
          obtain ⟨y, y1, y2⟩ := rk_lt hp hw (List.mem_of_getElem? hj)
          rw [y2] at c
          subst c
          rw [y1, (hq'.2.2.2 j (hQ' i j hj)).2.1]
          rfl
        · rw [if_neg (fun e => c (nI_inj (by omega) hx e))]
          refine OK.so ⟨rfl, fun y j' hy hyj => ?_⟩
          by_cases e : y = i
          · subst e; rw [hj] at hyj; cases hyj; exact c
          · exact hI y j' (by omega) hyj
      · obtain ⟨e1, hI⟩ := hs'
        subst e1
        simp only [h35, if_neg (nI_nlt (Nat.le_refl el.length) (show el.length < 2 ^ 31 by omega))]
        refine OK.so ?_
        show _ = _
        cases hc : l[x]? with
        | none => rfl
        | some k =>
          exfalso
          obtain ⟨y, hy⟩ := List.mem_iff_getElem?.mp (hp.mem_iff.mp (List.mem_of_getElem? hc))
          refine hI y k (gq_lt hy) hy ?_
          rw [cnt_of_perm hp]
          exact rank_eq hw hc
    obtain ⟨e, h1, h2⟩ := hk
    rw [h1, h2]
    cases l[x]? <;> rfl
  · rw [if_neg (nI_nlt (by omega) (by omega)), if_neg hxm]
theorem wrong_cases (a3 : Int32) : (p_PE_refusalOfNumber a3 = some (-4) ∧ m_wrongMany a3 = some (-4)) ∨ (p_PE_refusalOfNumber a3 = some (-6) ∧ m_wrongMany a3 = some (-6)) ∨ (p_PE_refusalOfNumber a3 = some 0 ∧ m_wrongMany a3 = some 0 ∧ ∃ m, m ≤ 40 ∧ a3 = nI m) := by
  unfold p_PE_refusalOfNumber m_wrongMany
  by_cases h1 : a3 < 0
  · left; simp only [if_pos h1]; exact ⟨trivial, trivial⟩
  · by_cases h2 : (40 : Int32) < a3
    · right; left; simp only [if_neg h1, if_pos h2]; exact ⟨trivial, trivial⟩
    · right; right
      simp only [if_neg h1, if_neg h2]
      exact ⟨trivial, trivial, rg_nI (hi := 40) (Rg.mk h1 h2 rfl rfl)⟩
theorem ell_fr {τ τ' : St} (t2 : FrM τ τ') (g : Nat → Int32) (pl : Int32) (Q : Nat) : ell τ' g pl Q = ell τ g pl Q := by
  have : elB τ' g pl = elB τ g pl := by
    funext k
    unfold elB mmB
    rw [(t2 0 12 k rfl).1, (t2 0 15 k rfl).1, (t2 0 0 0 rfl).1]
  show (List.range Q).filter (elB τ' g pl) = (List.range Q).filter (elB τ g pl)
  rw [this]
theorem mkf_fr {τ τ' : St} (t2 : FrM τ τ') (T R : Nat) : (fun k => mk τ' T R k (τ'.1 0 0 0)) = (fun k => mk τ T R k (τ.1 0 0 0)) := by
  funext k
  rw [mk_fr t2, (t2 0 0 0 rfl).1]
theorem p_goesAt_no {σ τ : St} {U P Q T R L E : Nat} (h : InvB σ τ U P Q T R L E) {el l : List Nat} {f : Nat → Int32} {σ' : St} (hR : RG σ el f σ') (hlen : el.length ≤ 40) (hQ' : ∀ x k : Nat, el[x]? = some k → k < Q) (hp : l.Perm el) (hw : l.Pairwise (fun a b => ltK f (τ.1 0 10) a b = true)) {m : Nat} (hm : m ≤ 40) {a4 : Int32} (hno : ∀ k, k < min m l.length → a4 ≠ nI k) : p_Ranks_goesAt σ' (nI m) a4 = some (-9) := by
  by_cases h0 : a4 < 0
  · unfold p_Ranks_goesAt
    rw [if_pos h0]
  · obtain ⟨x, hx, rfl⟩ := nI_of h0
    rw [p_goesAt_eq h hR hlen hQ' hp hw hm hx]
    by_cases c : x < m
    · rw [if_pos c, List.getElem?_eq_none]
      · rfl
      · have : ¬ x < min m l.length := fun c => hno x c rfl
        omega
    · rw [if_neg c]
theorem cut_both {σ τ : St} {N : Nat → Nat} {U L E : Nat} (hI : Inv σ τ N) (h : InvB σ τ U (N 1) (N 2) (N 3) (N 4) L E) {g : Nat → Int32} {a2 : Int32} {σ' τ' : St} (hT : TK σ τ (N 1) (N 2) g a2 σ' τ') {m : Nat} (hm : m ≤ 40) : ∃ (σ2 τ2 : St) (r : Int32) (l : List Nat), p_Ranks_gather σ' = some σ2 ∧ m_findCut τ' a2 (nI m) = some (r, τ2) ∧ RG σ (ell τ g a2 (N 2)) (fun k => mk τ (N 3) (N 4) k (τ.1 0 0 0)) σ2 ∧ FrM τ τ2 ∧ l.Perm (ell τ g a2 (N 2)) ∧ l.Pairwise (fun a b => ltK (fun k => mk τ (N 3) (N 4) k (τ.1 0 0 0)) (τ.1 0 10) a b = true) ∧ r = nI (min m l.length) ∧ l.length ≤ 40 ∧ ∀ x k, l[x]? = some k → τ2.1 0 28 x = nI k := by
  have hQ := h.2.2.2.1.1
  obtain ⟨t1, t2, t3, t4, t5, t6⟩ := id hT
  obtain ⟨⟨r, τ2⟩, d1, d2, l, d3, d4, d5, d6⟩ := m_cut_ok (h.wk.fr t2) (g := g) (pl := a2) (fun p hp => (t3 p hp).2) (nI m)
  obtain ⟨σ2, f1, f2⟩ := p_rgather_ok h hT
  rw [ell_fr t2] at d3
  rw [mkf_fr t2, show τ'.1 0 10 = τ.1 0 10 from funext fun k => (t2 0 10 k rfl).1] at d4
  have hlen : (ell τ g a2 (N 2)).length ≤ 40 := Nat.le_trans (rf_len _ _) hQ
  have hll : l.length ≤ 40 := by rw [d3.length_eq]; exact hlen
  simp only at d5 d6
  rw [lmin (by omega) (by omega)] at d5
  exact ⟨σ2, τ2, r, l, f1, d1, f2, t2.trans d2.toM, d3, d4, d5, hll, d6⟩
theorem ne_m4 : ¬ (-4 : Int32) = 0 := by decide
theorem lt_m4 : (-4 : Int32) < 0 := by decide
theorem ne_m6 : ¬ (-6 : Int32) = 0 := by decide
theorem lt_m6 : (-6 : Int32) < 0 := by decide
theorem cut_fin {σ τ : St} {N : Nat → Nat} {U L E : Nat} (hI : Inv σ τ N) (h : InvB σ τ U (N 1) (N 2) (N 3) (N 4) L E) {g : Nat → Int32} {a2 : Int32} {σ' τ' : St} (hT : TK σ τ (N 1) (N 2) g a2 σ' τ') {m : Nat} (hm : m ≤ 40) (a4 : Int32) : ∃ (r : Int32) (σ2 τ2 : St), ((p_Ranks_gather σ').bind fun r5 => (p_Ranks_goesAt r5 (nI m) a4).bind fun r7 => some (r7, r5)) = some (r, σ2) ∧ ((m_findCut τ' a2 (nI m)).bind fun r5 => (m_in a4 0 (r5.1 - 1)).bind fun r7 => if r7 = 0 then some (-9, r5.2) else (ix 40 a4).bind fun i9 => some (r5.2.1 0 28 i9, r5.2)) = some (r, τ2) ∧ Inv σ2 τ2 N := by
  have hQ := h.2.2.2.1.1
  obtain ⟨σ2, τ2, r, l, f1, d1, f2, d2, d3, d4, d5, hll, d6⟩ := cut_both hI h hT hm
  have hlen : (ell τ g a2 (N 2)).length ≤ 40 := Nat.le_trans (rf_len _ _) hQ
  have hfin : Inv σ2 τ2 N := hI.fr f2.1 d2
  rw [d1, f1, obs, obs]
  subst d5
  rcases in_or a4 (n := min m l.length) (by omega) with ⟨x, hx, rfl⟩ | ⟨hno, hout⟩
  · have hxl : l[x]? = some l[x] := List.getElem?_eq_getElem (by omega)
    have e1 : m_in (nI x) 0 ((nI (min m l.length), τ2).1 - 1) = some 1 := in0_t hx (by omega)
    have e2 : p_Ranks_goesAt σ2 (nI m) (nI x) = some (nI l[x]) := by
      rw [p_goesAt_eq h f2 hlen (fun x k hx => (rf_lt hx).1) d3 d4 hm (by omega), if_pos (show x < m by omega), hxl]
      rfl
    rw [e1, e2, obs, obs, if_neg (show ¬ (1 : Int32) = 0 by decide), ix_nI (show x < 40 by omega) (by decide), obs]
    refine ⟨nI l[x], σ2, τ2, rfl, ?_, hfin⟩
    show some (τ2.1 0 28 x, τ2) = _
    rw [d6 x _ hxl]
  · have e1 : m_in a4 0 ((nI (min m l.length), τ2).1 - 1) = some 0 := in0_f (by omega) hno
    rw [e1, p_goesAt_no h f2 hlen (fun x k hx => (rf_lt hx).1) d3 d4 hm hno, obs, obs, if_pos rfl]
    exact ⟨-9, σ2, τ2, rfl, rfl, hfin⟩
theorem cut_rest {σ τ : St} {N : Nat → Nat} {U L E : Nat} (hI : Inv σ τ N) (h : InvB σ τ U (N 1) (N 2) (N 3) (N 4) L E) {g : Nat → Int32} {a2 : Int32} {σ' τ' : St} (hT : TK σ τ (N 1) (N 2) g a2 σ' τ') (a3 a4 : Int32) : ∃ (r : Int32) (σ2 τ2 : St), ((p_PE_refusalOfNumber a3).bind fun r3 => if r3 = 0 then ((p_Ranks_gather σ').bind fun r5 => (p_Ranks_goesAt r5 a3 a4).bind fun r7 => some (r7, r5)) else p_PE_refuse σ' r3) = some (r, σ2) ∧ ((m_wrongMany a3).bind fun r3 => if r3 < 0 then ((m_wrongMany a3).bind fun r10 => m_refuse τ' r10) else ((m_findCut τ' a2 a3).bind fun r5 => (m_in a4 0 (r5.1 - 1)).bind fun r7 => if r7 = 0 then some (-9, r5.2) else (ix 40 a4).bind fun i9 => some (r5.2.1 0 28 i9, r5.2))) = some (r, τ2) ∧ Inv σ2 τ2 N := by
  obtain ⟨t1, t2, t3, t4, t5, t6⟩ := id hT
  rcases wrong_cases a3 with ⟨w1, w2⟩ | ⟨w1, w2⟩ | ⟨w1, w2, m, hm, e⟩
  · rw [w1, w2, obs, obs, if_neg ne_m4, if_pos lt_m4, obs, p_r4, m_r4]
    exact ⟨_, _, _, rfl, rfl, inv_rf (hI.fr t1 t2) 4⟩
  · rw [w1, w2, obs, obs, if_neg ne_m6, if_pos lt_m6, obs, p_r6, m_r6]
    exact ⟨_, _, _, rfl, rfl, inv_rf (hI.fr t1 t2) 6⟩
  · rw [w1, w2, obs, obs, if_pos rfl, if_neg (show ¬ (0 : Int32) < 0 by decide), e]
    exact cut_fin hI h hT hm a4
theorem s_cut : S_cut Inv := by
  intro σ τ N a1 a2 a3 a4 hI
  obtain ⟨U, L, E, h⟩ := id hI
  simp only [p_PE_cut, m_cut, bind_pair]
  rcases take_both h a1 a2 with ⟨σ', τ', c1, c2, c3, c4⟩ | ⟨σ', τ', g, c1, c2, hT, hpl⟩
  · rw [c1, c2]
    simp only [obs, if_true, p_r1, m_r1]
    exact ⟨_, _, _, rfl, rfl, inv_rf (hI.fr c3 c4) 1⟩
  · rw [c1, c2]
    exact cut_rest hI h hT a3 a4
