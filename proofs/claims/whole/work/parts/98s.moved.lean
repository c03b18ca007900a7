/-! ===== moved: the reference ===== -/
def scrI (d j k : Nat) : Bool := d == 0 && ((j == 0 && k == 38) || j == 28 || j == 29 || j == 45)
theorem scrI_M (d j k : Nat) (h : scrM d j k = false) : scrI d j k = false := by
  cases hk : scrI d j k with
  | false => rfl
  | true =>
    unfold scrI at hk
    simp only [Bool.and_eq_true, Bool.or_eq_true, beq_iff_eq] at hk
    obtain ⟨rfl, ((⟨rfl, rfl⟩ | rfl) | rfl) | rfl⟩ := hk
    · cases h
    · have : scrM 0 28 k = true := rfl
      rw [this] at h; cases h
    · have : scrM 0 29 k = true := rfl
      rw [this] at h; cases h
    · have : scrM 0 45 k = true := rfl
      rw [this] at h; cases h
theorem scrI_K (d j k : Nat) (h : scrI d j k = false) : scrK d j k = false := by
  cases hk : scrK d j k with
  | false => rfl
  | true =>
    unfold scrK at hk
    simp only [Bool.and_eq_true, Bool.or_eq_true, beq_iff_eq] at hk
    obtain ⟨rfl, (⟨rfl, rfl⟩ | rfl) | rfl⟩ := hk
    · cases h
    · have : scrI 0 28 k = true := rfl
      rw [this] at h; cases h
    · have : scrI 0 29 k = true := rfl
      rw [this] at h; cases h
abbrev FrI (τ τ' : St) : Prop := Fr scrI τ τ'
theorem FrI.toM {τ τ' : St} (h : FrI τ τ') : FrM τ τ' := Fr.mono h scrI_M
theorem FrK.toI {τ τ' : St} (h : FrK τ τ') : FrI τ τ' := Fr.mono h scrI_K
theorem Fr_both {scr : Nat → Nat → Nat → Bool} {B s : St} (h : Fr scr B s) (d j k : Nat) (v : Int32) : Fr scr (sx B d j k v) (sx s d j k v) := by
  intro d' j' k' hk
  have := h d' j' k' hk
  rw [sx_1, sx_1]
  by_cases c : d' = d ∧ j' = j ∧ k' = k
  · rw [if_pos c, if_pos c]
    exact ⟨rfl, this.2⟩
  · rw [if_neg c, if_neg c]
    exact this
/-- a righting beyond the last: the cells that stay written -/
def bey (τ : St) (R t : Nat) (v : Int32) : St := sx (sx (sx τ 0 23 R (nI t)) 0 24 R v) 0 25 R (τ.1 0 0 0)
theorem inv_bey {σ τ : St} {U P Q T R L E : Nat} (h : InvB σ τ U P Q T R L E) (t : Nat) (v : Int32) : InvB σ (bey τ R t v) U P Q T R L E := by
  obtain ⟨hs, hu, hp, hq, ht, hr, hl, he⟩ := h
  have m23 : ∀ j, j ≠ R → (bey τ R t v).1 0 23 j = τ.1 0 23 j := fun j hj => by simp [bey, sx_1, hj]
  have m24 : ∀ j, j ≠ R → (bey τ R t v).1 0 24 j = τ.1 0 24 j := fun j hj => by simp [bey, sx_1, hj]
  have m25 : ∀ j, j ≠ R → (bey τ R t v).1 0 25 j = τ.1 0 25 j := fun j hj => by simp [bey, sx_1, hj]
  have rk1 : ∀ t' i, i < R → rk (bey τ R t v) t' i = rk τ t' i := fun t' i hi => by unfold rk; rw [m23 i (by omega)]
  have lb : ∀ t' n, n ≤ R → lastB (rk (bey τ R t v) t') n = lastB (rk τ t') n := fun t' n hn => lastB_cong (fun i hi => rk1 t' i (by omega))
  refine ⟨hs, hu, hp, hq, ⟨ht.1, ht.2.1, ht.2.2.1, fun t' ht' => ?_⟩, ⟨hr.1, hr.2.1, hr.2.2.1, fun r hrr => ?_⟩, hl, he⟩
  · obtain ⟨b1, b2, b3, b4, b5, b6, b7, b8, b9, b10⟩ := ht.2.2.2 t' ht'
    refine ⟨b1, b2, b3, b4, b5, b6, b7, b8, ?_, ?_⟩
    · rw [lb t' R (Nat.le_refl _)]
      exact b9
    · rw [cnt_cong (fun i hi => rk1 t' i hi)]
      exact b10
  · have e : r ≠ R := by omega
    obtain ⟨⟨t', d1, d2, d3, d4⟩, b2, b3, b4⟩ := hr.2.2.2 r hrr
    unfold IRi1
    rw [m23 r e, m24 r e, m25 r e]
    exact ⟨⟨t', d1, d2, by rw [lb t' r (by omega)]; exact d3, d4⟩, b2, b3, b4⟩
theorem gain_fr {τ τ' : St} (hf : FrM τ τ') (T R t k : Nat) (w v : Int32) : gain τ' T R t k w v = gain τ T R t k w v := by
  have c : ∀ {j : Nat}, (∀ k, scrM 0 j k = false) → τ'.1 0 j = τ.1 0 j := fun h => funext fun k => (hf 0 _ k (h k)).1
  have htk : ∀ k w, tk τ' k w = tk τ k w := fun k w => by funext i; unfold tk; rw [(hf 0 19 i rfl).1, (hf 0 20 i rfl).1]
  have hrk : ∀ t, rk τ' t = rk τ t := fun t => by funext i; unfold rk; rw [(hf 0 23 i rfl).1]
  unfold gain rtv knR
  rw [htk, hrk, c (j := 25) (fun _ => rfl), c (j := 21) (fun _ => rfl), c (j := 24) (fun _ => rfl), (hf 0 0 0 rfl).1, (hf 0 17 0 rfl).1, (hf 0 17 2 rfl).1]
theorem ctB_cong {el : List Nat} {f f' c : Nat → Int32} {m k : Nat} (h : ∀ j, j ∈ el → f j = f' j) : ctB el f c m k = ctB el f' c m k := by
  unfold ctB
  by_cases hk : k ∈ el
  · rw [countP_cong h (h k hk)]
  · rw [decide_eq_false hk, Bool.false_and, Bool.false_and]
theorem cnt_rf (p r : Nat → Bool) : ∀ Q, cnt (fun k => p k && r k) Q = cnt (fun x => r (((List.range Q).filter p).getD x 0)) ((List.range Q).filter p).length
  | 0 => rfl
  | Q + 1 => by
    have ih := cnt_rf p r Q
    rw [rf_succ]
    generalize (List.range Q).filter p = l at ih ⊢
    show cnt (fun k => p k && r k) Q + (if p Q && r Q then 1 else 0) = _
    rw [ih]
    cases hp : p Q with
    | false =>
      rw [if_neg (show ¬ (false = true) by decide), List.append_nil, Bool.false_and, if_neg (show ¬ (false = true) by decide), Nat.add_zero]
    | true =>
      rw [if_pos rfl, List.length_append, Bool.true_and]
      show _ = cnt (fun x => r ((l ++ [Q]).getD x 0)) (l.length + 1)
      have e1 : (l ++ [Q]).getD l.length 0 = Q := by simp [List.getD_eq_getElem?_getD]
      have e2 : cnt (fun x => r ((l ++ [Q]).getD x 0)) (l.length + 1) = cnt (fun x => r ((l ++ [Q]).getD x 0)) l.length + (if r ((l ++ [Q]).getD l.length 0) then 1 else 0) := rfl
      have e3 : cnt (fun x => r (l.getD x 0)) l.length = cnt (fun x => r ((l ++ [Q]).getD x 0)) l.length := by
        refine cnt_cong (fun i hi => ?_)
        rw [List.getD_eq_getElem?_getD, List.getD_eq_getElem?_getD, List.getElem?_append_left hi]
      rw [e2, e1, e3]
/-- counted over all, counted over the row -/
theorem cut_cnt {τ : St} {g : Nat → Int32} {pl : Int32} {Q : Nat} (f f' c : Nat → Int32) (m : Nat) : cnt (fun k => ctB (ell τ g pl Q) f c m k != ctB (ell τ g pl Q) f' c m k) Q = cnt (fun x => decide ((ell τ g pl Q).countP (fun j => ltK f c j ((ell τ g pl Q).getD x 0)) < m) != decide ((ell τ g pl Q).countP (fun j => ltK f' c j ((ell τ g pl Q).getD x 0)) < m)) (ell τ g pl Q).length := by
  rw [← cnt_rf (elB τ g pl) (fun k => decide ((ell τ g pl Q).countP (fun j => ltK f c j k) < m) != decide ((ell τ g pl Q).countP (fun j => ltK f' c j k) < m)) Q]
  refine cnt_cong (fun k hk => ?_)
  unfold ctB
  have e : decide (k ∈ ell τ g pl Q) = elB τ g pl k := by
    rw [Bool.eq_iff_iff, decide_eq_true_iff, List.mem_filter, List.mem_range]
    exact ⟨fun c => c.2, fun c => ⟨hk, c⟩⟩
  rw [e]
  cases elB τ g pl k
  · rfl
  · simp only [Bool.true_and]
section MovedM
variable {σ τ : St} {U P Q T R L E : Nat}
theorem wk_put (h : WK σ τ U P Q T R) (hR : R ≤ 60) (t : Nat) (v : Int32) : WK σ (nrM τ R t v) U P Q T (R + 1) := ⟨h.1, h.2.1, h.2.2.1, h.2.2.2.1, rfl, h.2.2.2.2.2.1, by omega⟩
theorem ell_put (τ : St) (g : Nat → Int32) (pl : Int32) (Q R t : Nat) (v : Int32) : ell (nrM τ R t v) g pl Q = ell τ g pl Q := rfl
set_option maxHeartbeats 1000000 in
theorem m_moved_ok (h : InvB σ τ U P Q T R L E) {g : Nat → Int32} {pl : Int32} (hg : ∀ p, p < P → τ.1 0 27 p = g p) {m : Nat} (hm : m ≤ 40) {t k0 : Nat} (htt : t < T) (hk0 : k0 < Q) (hwho : τ.1 0 19 t = nI k0) (v : Int32) : OK (Option.bind (itr0 (S := Int32 × St) (E := St) (fun s15 => (if s15.1 < s15.2.1 0 0 11 then (Option.bind (m_isCut s15.2 s15.1 pl (nI m)) fun r40 => (Option.bind (ix 40 s15.1) fun i42 => (lt1 (sx r40.2 0 45 i42 r40.1) fun σ43 => some (.inl (s15.1 + (1 : Int32), σ43))))) else some (.inr s15.2))) FU ((0 : Int32), τ)) fun e20 => (Option.bind (m_putRight e20 (nI t) v) fun r23 => (Option.bind (itr0 (S := Int32 × Int32 × St) (E := Int32 × St) (fun s25 => (if s25.2.1 < s25.2.2.1 0 0 11 then (Option.bind (ix 40 s25.2.1) fun i34 => (Option.bind (m_isCut s25.2.2 s25.2.1 pl (nI m)) fun r35 => (Option.bind (α := Int32) ((if s25.2.2.1 0 45 i34 = r35.1 then some (0 : Int32) else some (1 : Int32))) fun t37 => some (.inl (s25.1 + t37, s25.2.1 + (1 : Int32), r35.2))))) else some (.inr (s25.1, s25.2.2)))) FU ((0 : Int32), (0 : Int32), r23)) fun e30 => (lt1 (sx e30.2 0 0 30 ((e30.2.1 0 0 30) - (1 : Int32))) fun σ33 => some (e30.1, σ33)))))
    (fun r => FrM (bey τ R t v) r.2 ∧ r.1 = nI (cnt (fun k => ctB (ell τ g pl Q) (fun k => mk τ T R k (τ.1 0 0 0)) (τ.1 0 10) m k != ctB (ell τ g pl Q) (fun k => if k = k0 then mk τ T R k (τ.1 0 0 0) + gain τ T R t k0 (τ.1 0 20 t) v else mk τ T R k (τ.1 0 0 0)) (τ.1 0 10) m k) Q)) := by
  have hq := h.2.2.2.1
  have hQ := hq.1
  have hR := h.2.2.2.2.2.1.1
  refine OK.bi (OK.mono (R := fun e => FrI τ e ∧ ∀ k, k < Q → e.1 0 45 k = if ctB (ell τ g pl Q) (fun k => mk τ T R k (τ.1 0 0 0)) (τ.1 0 10) m k then 1 else 0) ?_ ?_)
  · refine OK.itr Q (fun i s => s.1 = nI i ∧ FrI τ s.2 ∧ ∀ k, k < i → s.2.1 0 45 k = if ctB (ell τ g pl Q) (fun k => mk τ T R k (τ.1 0 0 0)) (τ.1 0 10) m k then 1 else 0) ⟨rfl, Fr.refl _, fun k hk => by omega⟩ (fun i s hi hs' => ?_) (fun s hs' => ?_) (FU_lt (by omega))
    · obtain ⟨i', s1⟩ := s
      obtain ⟨e1, hf, h45⟩ := hs'
      simp only at e1 hf h45 ⊢
      subst e1
      obtain ⟨⟨r, s2⟩, k1, k2, k3⟩ := m_isCut_ok (h.wk.fr hf.toM) (pl := pl) (g := g) (fun p hp => by rw [(hf 0 27 p rfl).1]; exact hg p hp) hm hi
      simp only at k2 k3
      rw [ell_fr hf.toM, mkf_fr hf.toM, f10_fr hf.toM] at k3
      rw [(hf 0 0 11 rfl).1, hq.2.1, if_pos (nI_lt hi (by omega)), k1, obs, ix_nI (show i < 40 by omega) (by decide), obs, lt1_eq, nI_1]
      refine OK.so ⟨rfl, (hf.trans k2.toI).sx rfl, fun k hk => ?_⟩
      show (sx s2 0 45 i r).1 0 45 k = _
      rw [sx_1]
      by_cases e : k = i
      · subst e
        rw [if_pos ⟨rfl, rfl, rfl⟩]
        exact k3
      · rw [if_neg (fun c => e c.2.2), (k2 0 45 k rfl).1]
        exact h45 k (by omega)
    · obtain ⟨i', s1⟩ := s
      obtain ⟨e1, hf, h45⟩ := hs'
      simp only at e1 hf h45 ⊢
      subst e1
      rw [(hf 0 0 11 rfl).1, hq.2.1, if_neg (nI_nlt (Nat.le_refl _) (by omega))]
      exact OK.so ⟨hf, h45⟩
  · rintro e ⟨hf, h45⟩
    have he := h.frM hf.toM
    have hte := he.2.2.2.2.1
    have hre := he.2.2.2.2.2.1
    rw [m_putRight_eq hre t v, obs]
    have hB := wk_put he.wk hR t v
    have hmk : ∀ k, k < Q → mk (nrM e R t v) T (R + 1) k ((nrM e R t v).1 0 0 0) = if k = k0 then mk τ T R k (τ.1 0 0 0) + gain τ T R t k0 (τ.1 0 20 t) v else mk τ T R k (τ.1 0 0 0) := by
      intro k hk
      have e0 : (nrM e R t v).1 0 0 0 = e.1 0 0 0 := by simp [nrM, sx_1]
      rw [e0, mk_put he.wk.2.2.1 hte hre htt v hk0 hQ (by rw [(hf 0 19 t rfl).1]; exact hwho) hk, gain_fr hf.toM, mk_fr hf.toM, (hf 0 0 0 rfl).1, (hf 0 20 t rfl).1]
    refine OK.bi (OK.mono (R := fun e' => FrK (nrM e R t v) e'.2 ∧ e'.1 = nI (cnt (fun k => ctB (ell τ g pl Q) (fun k => mk τ T R k (τ.1 0 0 0)) (τ.1 0 10) m k != ctB (ell τ g pl Q) (fun k => if k = k0 then mk τ T R k (τ.1 0 0 0) + gain τ T R t k0 (τ.1 0 20 t) v else mk τ T R k (τ.1 0 0 0)) (τ.1 0 10) m k) Q)) ?_ ?_)
    · refine OK.itr Q (fun i s => s.1 = nI (cnt (fun k => ctB (ell τ g pl Q) (fun k => mk τ T R k (τ.1 0 0 0)) (τ.1 0 10) m k != ctB (ell τ g pl Q) (fun k => if k = k0 then mk τ T R k (τ.1 0 0 0) + gain τ T R t k0 (τ.1 0 20 t) v else mk τ T R k (τ.1 0 0 0)) (τ.1 0 10) m k) i) ∧ s.2.1 = nI i ∧ FrK (nrM e R t v) s.2.2) ⟨rfl, rfl, Fr.refl _⟩ (fun i s hi hs' => ?_) (fun s hs' => ?_) (FU_lt (by omega))
      · obtain ⟨n, i', s1⟩ := s
        obtain ⟨e0, e1, hs⟩ := hs'
        simp only at e0 e1 hs ⊢
        subst e0; subst e1
        have c11 : s1.1 0 0 11 = nI Q := by
          rw [(hs 0 0 11 rfl).1]
          show (nrM e R t v).1 0 0 11 = nI Q
          rw [show (nrM e R t v).1 0 0 11 = e.1 0 0 11 by simp [nrM, sx_1], (hf 0 0 11 rfl).1, hq.2.1]
        have c45 : s1.1 0 45 i = if ctB (ell τ g pl Q) (fun k => mk τ T R k (τ.1 0 0 0)) (τ.1 0 10) m i then 1 else 0 := by
          rw [(hs 0 45 i rfl).1, show (nrM e R t v).1 0 45 i = e.1 0 45 i by simp [nrM, sx_1]]
          exact h45 i hi
        obtain ⟨⟨r, s2⟩, k1, k2, k3⟩ := m_isCut_ok (hB.fr hs.toM) (pl := pl) (g := g) (fun p hp => by rw [(hs 0 27 p rfl).1, show (nrM e R t v).1 0 27 p = e.1 0 27 p by simp [nrM, sx_1], (hf 0 27 p rfl).1]; exact hg p hp) hm hi
        simp only at k2 k3
        have e10 : (nrM e R t v).1 0 10 = e.1 0 10 := by funext k; simp [nrM, sx_1]
        rw [ell_fr hs.toM, mkf_fr hs.toM, f10_fr hs.toM, ell_put, ell_fr hf.toM, e10, f10_fr hf.toM, ctB_cong (fun j hj => hmk j (List.mem_range.mp (List.mem_filter.mp hj).1))] at k3
        subst k3
        rw [c11, if_pos (nI_lt hi (by omega)), ix_nI (show i < 40 by omega) (by decide), obs, k1, obs, c45, nI_1]
        have es : ∀ p : Nat → Bool, cnt p (i + 1) = cnt p i + (if p i then 1 else 0) := fun _ => rfl
        generalize hb1 : ctB (ell τ g pl Q) (fun k => mk τ T R k (τ.1 0 0 0)) (τ.1 0 10) m i = b1
        generalize hb2 : ctB (ell τ g pl Q) (fun k => if k = k0 then mk τ T R k (τ.1 0 0 0) + gain τ T R t k0 (τ.1 0 20 t) v else mk τ T R k (τ.1 0 0 0)) (τ.1 0 10) m i = b2
        by_cases d : b1 = b2
        · rw [if_pos (b01.mpr d), obs]
          refine OK.so ⟨?_, rfl, hs.trans k2⟩
          show _ + (0 : Int32) = _
          rw [es, hb1, hb2, d, bne_self_eq_false, if_neg (by decide), Nat.add_zero, Int32.add_zero]
        · rw [if_neg (fun c => d (b01.mp c)), obs, nI_1]
          refine OK.so ⟨?_, rfl, hs.trans k2⟩
          show nI _ = nI _
          rw [es, hb1, hb2, if_pos (bne_iff_ne.mpr d)]
      · obtain ⟨n, i', s1⟩ := s
        obtain ⟨e0, e1, hs⟩ := hs'
        simp only at e0 e1 hs ⊢
        subst e0; subst e1
        have c11 : s1.1 0 0 11 = nI Q := by
          rw [(hs 0 0 11 rfl).1]
          show (nrM e R t v).1 0 0 11 = nI Q
          rw [show (nrM e R t v).1 0 0 11 = e.1 0 0 11 by simp [nrM, sx_1], (hf 0 0 11 rfl).1, hq.2.1]
        rw [c11, if_neg (nI_nlt (Nat.le_refl _) (by omega))]
        exact OK.so ⟨hs, rfl⟩
    · rintro ⟨n, s⟩ ⟨hs, hn⟩
      simp only at hs hn ⊢
      subst hn
      rw [lt1_eq]
      refine OK.so ⟨?_, rfl⟩
      show FrM (bey τ R t v) (sx s 0 0 30 (s.1 0 0 30 - 1))
      have hs' : FrK (sx (bey e R t v) 0 0 30 (nI (R + 1))) s := hs
      have e30 : (bey e R t v).1 0 0 30 = nI R := by
        rw [show (bey e R t v).1 0 0 30 = e.1 0 0 30 by simp [bey, sx_1]]
        exact hre.2.1
      have s30 : s.1 0 0 30 - 1 = (bey e R t v).1 0 0 30 := by
        rw [(hs' 0 0 30 rfl).1, sx_1, if_pos ⟨rfl, rfl, rfl⟩, e30]
        exact pk_sub (a := R + 1) (b := 1) (by omega)
      rw [s30]
      have hb : FrM (bey τ R t v) (bey e R t v) := by
        unfold bey
        rw [(hf 0 0 0 rfl).1]
        exact Fr_both (Fr_both (Fr_both hf.toM 0 23 R _) 0 24 R _) 0 25 R _
      exact hb.trans (FrK.toM (Fr_put hs'))
end MovedM
section SMoved
variable {σ τ : St} {N : Nat → Nat} {U L E : Nat}
/-- both, where all is as it must be -/
theorem moved_fin (hI : Inv σ τ N) (h : InvB σ τ U (N 1) (N 2) (N 3) (N 4) L E) {g : Nat → Int32} {a2 : Int32} {σ' τ' σ2 : St} (hT : TK σ τ (N 1) (N 2) g a2 σ' τ') (hR : RG σ (ell τ g a2 (N 2)) (fun k => mk τ (N 3) (N 4) k (τ.1 0 0 0)) σ2) {m t : Nat} (hm : m ≤ 40) (htt : t < N 3) (v : Int32) : ∃ (r : Int32) (σ3 τ3 : St), p_Ranks_movedBy σ2 (nI m) t v = some (r, σ3) ∧ (Option.bind (itr0 (S := Int32 × St) (E := St) (fun s15 => (if s15.1 < s15.2.1 0 0 11 then (Option.bind (m_isCut s15.2 s15.1 a2 (nI m)) fun r40 => (Option.bind (ix 40 s15.1) fun i42 => (lt1 (sx r40.2 0 45 i42 r40.1) fun σ43 => some (.inl (s15.1 + (1 : Int32), σ43))))) else some (.inr s15.2))) FU ((0 : Int32), τ')) fun e20 => (Option.bind (m_putRight e20 (nI t) v) fun r23 => (Option.bind (itr0 (S := Int32 × Int32 × St) (E := Int32 × St) (fun s25 => (if s25.2.1 < s25.2.2.1 0 0 11 then (Option.bind (ix 40 s25.2.1) fun i34 => (Option.bind (m_isCut s25.2.2 s25.2.1 a2 (nI m)) fun r35 => (Option.bind (α := Int32) ((if s25.2.2.1 0 45 i34 = r35.1 then some (0 : Int32) else some (1 : Int32))) fun t37 => some (.inl (s25.1 + t37, s25.2.1 + (1 : Int32), r35.2))))) else some (.inr (s25.1, s25.2.2)))) FU ((0 : Int32), (0 : Int32), r23)) fun e30 => (lt1 (sx e30.2 0 0 30 ((e30.2.1 0 0 30) - (1 : Int32))) fun σ33 => some (e30.1, σ33))))) = some (r, τ3) ∧ Inv σ3 τ3 N := by
  obtain ⟨t1, t2, t3, t4, t5, t6⟩ := id hT
  have hQ := h.2.2.2.1.1
  have hlen : (ell τ g a2 (N 2)).length ≤ 40 := Nat.le_trans (rf_len _ _) hQ
  obtain ⟨k0, hk0, w1, w2, -⟩ := (h.2.2.2.2.1.2.2.2 t htt).2.1
  obtain ⟨⟨r1, σ3⟩, p1, p2, p3⟩ := p_movedBy_ok h hR hlen (fun x k hx => (rf_lt hx).1) (fun x y k hx hy => rf_inj hx hy) hm htt hk0 w2 v
  have h' := h.frM t2
  obtain ⟨⟨r2, τ3⟩, q1, q2, q3⟩ := m_moved_ok h' (g := g) (pl := a2) (fun p hp => (t3 p hp).2) hm htt hk0 (by rw [(t2 0 19 t rfl).1]; exact w1) v
  simp only at p2 p3 q2 q3
  have ef : (fun k => if k = k0 then mk τ' (N 3) (N 4) k (τ'.1 0 0 0) + gain τ' (N 3) (N 4) t k0 (τ'.1 0 20 t) v else mk τ' (N 3) (N 4) k (τ'.1 0 0 0)) = (fun k => if k = k0 then mk τ (N 3) (N 4) k (τ.1 0 0 0) + gain τ (N 3) (N 4) t k0 (τ.1 0 20 t) v else mk τ (N 3) (N 4) k (τ.1 0 0 0)) := by
    funext k
    rw [mk_fr t2, gain_fr t2, (t2 0 0 0 rfl).1, (t2 0 20 t rfl).1]
  rw [cut_cnt, ef, ell_fr t2, mkf_fr t2, f10_fr t2] at q3
  refine ⟨r1, σ3, τ3, p1, ?_, U, L, E, ((inv_bey h' t v).frC p2).frM q2⟩
  rw [q1, p3, q3]
end SMoved
theorem s_moved : S_moved Inv := by
  intro σ τ N a1 a2 a3 a4 a5 hI
  obtain ⟨U, L, E, h⟩ := id hI
  have ht := h.2.2.2.2.1
  have hT' := ht.1
  unfold p_PE_moved m_moved
  rcases in_or a4 (n := N 3) (by omega) with ⟨t, htt, rfl⟩ | ⟨hno, -⟩
  · rw [tellingAt_t ht htt, obs, oes]
    rcases take_both h a1 a2 with ⟨σ', τ', c1, c2, c3, c4⟩ | ⟨σ', τ', g, c1, c2, hT, hpl⟩
    · rw [c1, c2, obs, obs, if_pos (show ((0 : Int32), σ').1 = 0 from rfl), if_pos (show ((0 : Int32), τ').1 = 0 from rfl), p_r1, m_r1, obs, obs]
      exact ⟨-1, rfC σ' 1, rfM τ' 1, rfl, rfl, inv_rf (hI.fr c3 c4) 1⟩
    · obtain ⟨t1, t2, t3, t4, t5, t6⟩ := id hT
      obtain ⟨σ2, f1, f2⟩ := p_rgather_ok h hT
      have hb3 := (ht.2.2.2 t htt).2.2.1
      have htl : m_isTelling ((1 : Int32), τ').2 (nI t) = some 1 := isTelling_t (h.frM t2).2.2.2.2.1 htt
      have f1' : p_Ranks_gather ((1 : Int32), σ').2 = some σ2 := f1
      have hr1 : m_refuse ((1 : Int32), τ').2 (-4) = some (-4, rfM τ' 4) ∧ m_refuse ((1 : Int32), τ').2 (-6) = some (-6, rfM τ' 6) := ⟨m_r4 τ', m_r6 τ'⟩
      have hr2 : p_PE_refuse ((1 : Int32), σ').2 (-4) = some (-4, rfC σ' 4) ∧ p_PE_refuse ((1 : Int32), σ').2 (-6) = some (-6, rfC σ' 6) := ⟨p_r4 σ', p_r6 σ'⟩
      have hIf : ∀ c, Inv (rfC σ' c) (rfM τ' c) N := fun c => inv_rf (hI.fr t1 t2) c
      have e20 : ((1 : Int32), τ').2.1 0 20 t = τ.1 0 20 t := (t2 0 20 t rfl).1
      have e31 : ((1 : Int32), σ').2.1 3 t 1 = τ.1 0 20 t := ((t1 3 t 1 rfl).1).trans hb3
      rw [c1, c2, obs, obs, if_neg (show ¬ ((1 : Int32), σ').1 = 0 by show ¬ (1 : Int32) = 0; decide), if_neg (show ¬ ((1 : Int32), τ').1 = 0 by show ¬ (1 : Int32) = 0; decide), htl, obs, if_neg (show ¬ (1 : Int32) = 0 by decide)]
      by_cases h3 : a3 < 0
      · rw [if_pos h3, if_pos h3, hr2.1, hr1.1, obs, obs]
        exact ⟨-4, rfC σ' 4, rfM τ' 4, rfl, rfl, hIf 4⟩
      rw [if_neg h3, if_neg h3]
      by_cases h5 : a5 < 0
      · rw [if_pos h5, if_pos h5, hr2.1, hr1.1, obs, obs]
        exact ⟨-4, rfC σ' 4, rfM τ' 4, rfl, rfl, hIf 4⟩
      rw [if_neg h5, if_neg h5]
      by_cases h40 : (40 : Int32) < a3
      · rw [if_pos h40, if_pos h40, hr2.2, hr1.2, obs, obs]
        exact ⟨-6, rfC σ' 6, rfM τ' 6, rfl, rfl, hIf 6⟩
      rw [if_neg h40, if_neg h40, ix_nI (show t < 120 by omega) (by decide), obs, e31, e20]
      obtain ⟨m, hm, rfl⟩ := rg_nI (hi := 40) (Rg.mk h3 h40 rfl rfl)
      unfold p_PE_mostTold
      obtain ⟨mx, e1⟩ : ∃ mx : Int32, (if τ.1 0 20 t = 0 then some (100 : Int32) else some (9 : Int32)) = some mx := by
        by_cases c : τ.1 0 20 t = 0
        · exact ⟨100, by rw [if_pos c]⟩
        · exact ⟨9, by rw [if_neg c]⟩
      rw [e1, obs, obs]
      by_cases h6 : mx < a5
      · rw [if_pos h6, if_pos h6, hr2.2, hr1.2, obs, obs]
        exact ⟨-6, rfC σ' 6, rfM τ' 6, rfl, rfl, hIf 6⟩
      rw [if_neg h6, if_neg h6, f1', obs, bind_pair]
      exact moved_fin hI h hT f2 hm htt a5
  · rw [tellingAt_f ht hno, obs, oen, p_r1, obs]
    rcases take_both h a1 a2 with ⟨σ', τ', c1, c2, c3, c4⟩ | ⟨σ', τ', g, c1, c2, hT, hpl⟩
    · rw [c2, obs, if_pos (show ((0 : Int32), τ').1 = 0 from rfl), m_r1, obs]
      exact ⟨-1, rfC σ 1, rfM τ' 1, rfl, rfl, inv_rf (hI.fr (Fr.refl _) c4) 1⟩
    · have htl : m_isTelling ((1 : Int32), τ').2 a4 = some 0 := isTelling_f (h.frM hT.2.1).2.2.2.2.1 hno
      rw [c2, obs, if_neg (show ¬ ((1 : Int32), τ').1 = 0 by show ¬ (1 : Int32) = 0; decide), htl, obs, if_pos rfl, m_r1, obs]
      exact ⟨-1, rfC σ 1, rfM τ' 1, rfl, rfl, inv_rf (hI.fr (Fr.refl _) hT.2.1) 1⟩
