/-! ===== the reference's cut ===== -/
section CutM
variable {σ τ : St} {U P Q T R L E : Nat}
theorem m_ahead_eq (hP : Q ≤ 40) {τ' : St} (hf : FrM τ τ') {f : Nat → Int32} {i j a : Nat} (hi : i < Q) (hj : j < Q) (ha : a < 40) (h28 : τ'.1 0 28 a = nI j) (h29 : τ'.1 0 29 a = f j) : m_isAhead τ' (nI i) (f i) (nI a) = some (if ltK f (τ.1 0 10) i j then 1 else 0) := by
  unfold m_isAhead
  simp only [ix_nI ha (show 40 < 2 ^ 31 by decide), obs, h28, h29, ix_nI (show i < 40 by omega) (show 40 < 2 ^ 31 by decide), ix_nI (show j < 40 by omega) (show 40 < 2 ^ 31 by decide), (hf 0 10 i rfl).1, (hf 0 10 j rfl).1, nI_ltI (show j < 2 ^ 31 by omega) (show i < 2 ^ 31 by omega)]
  unfold ltK
  simp only [decide_eq_true_iff]
  by_cases c1 : f i = f j
  · rw [if_pos c1]
    have c0 : ¬ f i < f j := by rw [i_lt, c1]; omega
    by_cases c2 : τ.1 0 10 i = τ.1 0 10 j
    · rw [if_pos c2]
      have c3 : ¬ τ.1 0 10 j < τ.1 0 10 i := by rw [i_lt, c2]; omega
      by_cases c4 : j < i
      · rw [if_pos c4, if_pos (Or.inr ⟨c1, Or.inr ⟨c2.symm, c4⟩⟩)]
      · rw [if_neg c4, if_neg]
        rintro (d | ⟨-, d | ⟨-, d⟩⟩)
        · exact c0 d
        · exact c3 d
        · exact c4 d
    · rw [if_neg c2]
      by_cases c3 : τ.1 0 10 j < τ.1 0 10 i
      · rw [if_pos c3, if_pos (Or.inr ⟨c1, Or.inl c3⟩)]
      · rw [if_neg c3, if_neg]
        rintro (d | ⟨-, d | ⟨d, -⟩⟩)
        · exact c0 d
        · exact c3 d
        · exact c2 d.symm
  · rw [if_neg c1]
    by_cases c0 : f i < f j
    · rw [if_pos c0, if_pos (Or.inl c0)]
    · rw [if_neg c0, if_neg]
      rintro (d | ⟨d, -⟩)
      · exact c0 d
      · exact c1 d
set_option maxHeartbeats 1000000 in
theorem m_cut_ok (h : WK σ τ U P Q T R) {g : Nat → Int32} {pl : Int32} (hg : ∀ p, p < P → τ.1 0 27 p = g p) (n : Int32) : OK (m_findCut τ pl n) (fun r => FrK τ r.2 ∧ ∃ l : List Nat, l.Perm (ell τ g pl Q) ∧ l.Pairwise (fun a b => ltK (fun k => mk τ T R k (τ.1 0 0 0)) (τ.1 0 10) a b = true) ∧ r.1 = (if n < nI l.length then n else nI l.length) ∧ ∀ x k, l[x]? = some k → r.2.1 0 28 x = nI k) := by
  have hQ := h.2.1.1
  have hmm : ∀ τ', FrK τ τ' → ∀ k, mmB τ' g pl k = mmB τ g pl k := fun τ' hf k => by unfold mmB; rw [(hf 0 12 k rfl).1]
  generalize hF : (fun k => mk τ T R k (τ.1 0 0 0)) = f
  have hF' : ∀ k, mk τ T R k (τ.1 0 0 0) = f k := fun k => by rw [← hF]
  unfold m_findCut
  rw [lt1_eq]
  refine OK.bi (OK.mono (R := fun τ1 => FrK τ τ1 ∧ ∃ l : List Nat, l.Perm (ell τ g pl Q) ∧ l.Pairwise (fun a b => ltK f (τ.1 0 10) a b = true) ∧ τ1.1 0 0 38 = nI l.length ∧ ∀ x k, l[x]? = some k → τ1.1 0 28 x = nI k) ?_ ?_)
  · refine OK.itr Q (fun i s => s.1 = nI i ∧ FrK τ s.2 ∧ ∃ l : List Nat, l.Perm (ell τ g pl i) ∧ l.Pairwise (fun a b => ltK f (τ.1 0 10) a b = true) ∧ s.2.1 0 0 38 = nI l.length ∧ ∀ x k, l[x]? = some k → s.2.1 0 28 x = nI k ∧ s.2.1 0 29 x = f k) ⟨rfl, (Fr.refl τ).sx rfl, [], List.Perm.refl _, List.Pairwise.nil, rfl, fun x k hx => by simp at hx⟩ (fun i s hi hs' => ?_) (fun s hs' => ?_) (FU_lt (by omega))
    · obtain ⟨i', τ1⟩ := s
      obtain ⟨e1, hf, l, hl1, hl2, hl3, hl4⟩ := hs'
      simp only at e1 hf hl3 hl4 ⊢
      subst e1
      have h1 := h.fr hf.toM
      have hlen : l.length ≤ i := by rw [hl1.length_eq]; exact rf_len _ i
      have hmem : ∀ x k, l[x]? = some k → k < i := fun x k hx => by
        have := hl1.mem_iff.mp (List.mem_of_getElem? hx)
        rw [List.mem_filter, List.mem_range] at this
        exact this.1
      have hmk : m_markOf τ1 (nI i) (τ1.1 0 0 0) = some (f i) := by
        rw [(hf 0 0 0 rfl).1, m_mark_eq h1.2.2.1 h1.1 h1.2.1 h1.2.2.2.2.2.1 h1.2.2.2.2.2.2 h1.2.2.2.1 h1.2.2.2.2.1 hi, mk_fr hf.toM, hF']
      have hof := isOf_wk (pl := pl) h1 (g := g) (fun p hp => by rw [(hf 0 27 p rfl).1]; exact hg p hp) hi
      rw [hmm τ1 hf] at hof
      have hgu := guard_eq h1.2.1 hi
      rw [(hf 0 15 i rfl).1, (hf 0 0 0 rfl).1] at hgu
      rw [(hf 0 0 11 rfl).1, h.2.1.2.1, if_pos (nI_lt hi (show Q < 2 ^ 31 by omega))]
      simp only [hof, hgu, hmk, obs, nI_1]
      have e2 : ell τ g pl (i + 1) = ell τ g pl i ++ (if elB τ g pl i then [i] else []) := rf_succ (elB τ g pl) i
      have keep : elB τ g pl i = false → OK (some (Sum.inl (β := St) (nI (i + 1), τ1))) (fun x => Sum.elim (fun s : Int32 × St => s.1 = nI (i + 1) ∧ FrK τ s.2 ∧ ∃ l : List Nat, l.Perm (ell τ g pl (i + 1)) ∧ l.Pairwise (fun a b => ltK f (τ.1 0 10) a b = true) ∧ s.2.1 0 0 38 = nI l.length ∧ ∀ x k, l[x]? = some k → s.2.1 0 28 x = nI k ∧ s.2.1 0 29 x = f k) (fun τ1 => FrK τ τ1 ∧ ∃ l : List Nat, l.Perm (ell τ g pl Q) ∧ l.Pairwise (fun a b => ltK f (τ.1 0 10) a b = true) ∧ τ1.1 0 0 38 = nI l.length ∧ ∀ x k, l[x]? = some k → τ1.1 0 28 x = nI k) x) := by
        intro he
        rw [he] at e2
        simp only [Bool.false_eq_true, if_false, List.append_nil] at e2
        exact OK.so ⟨rfl, hf, l, by rw [e2]; exact hl1, hl2, hl3, hl4⟩
      cases hm : mmB τ g pl i with
      | false =>
        simp only [Bool.false_eq_true, if_false, if_true, obs]
        exact keep (by unfold elB; rw [hm]; rfl)
      | true =>
        simp only [if_true, if_neg (show ¬ (1 : Int32) = 0 by decide)]
        by_cases hgd : τ.1 0 15 i < τ.1 0 0 0
        · have he : elB τ g pl i = true := by unfold elB; rw [hm, decide_eq_true hgd]; rfl
          rw [he, if_pos rfl] at e2
          simp only [decide_eq_true hgd, if_true]
          rw [hl3]
          refine OK.bi (OK.bi (OK.mono (R := fun s => ∃ a, a ≤ l.length ∧ s.1 = nI a ∧ FrK τ s.2 ∧ s.2.1 0 0 38 = nI l.length ∧ (∀ x k, x < a → l[x]? = some k → s.2.1 0 28 x = nI k ∧ s.2.1 0 29 x = f k) ∧ (∀ x k, a ≤ x → l[x]? = some k → s.2.1 0 28 (x + 1) = nI k ∧ s.2.1 0 29 (x + 1) = f k) ∧ (∀ x k, a ≤ x → l[x]? = some k → ltK f (τ.1 0 10) i k = true) ∧ (∀ x k, x < a → l[x]? = some k → ltK f (τ.1 0 10) k i = true)) ?_ ?_))
          · refine OK.itm (fun s => s.1.toNatClampNeg) (fun s => ∃ a, a ≤ l.length ∧ s.1 = nI a ∧ FrK τ s.2 ∧ s.2.1 0 0 38 = nI l.length ∧ (∀ x k, x < a → l[x]? = some k → s.2.1 0 28 x = nI k ∧ s.2.1 0 29 x = f k) ∧ (∀ x k, a ≤ x → l[x]? = some k → s.2.1 0 28 (x + 1) = nI k ∧ s.2.1 0 29 (x + 1) = f k) ∧ (∀ x k, a ≤ x → l[x]? = some k → ltK f (τ.1 0 10) i k = true)) (fun s hs' => ?_) ⟨l.length, Nat.le_refl _, rfl, hf, hl3, fun x k _ hx => hl4 x k hx, fun x k hx hx2 => by have := gq_lt hx2; omega, fun x k hx hx2 => by have := gq_lt hx2; omega⟩ ?_
            · obtain ⟨a', τ2⟩ := s
              obtain ⟨a, ha, e3, hf2, h38, hlo, hhi, hgt⟩ := hs'
              simp only at e3 hf2 h38 hlo hhi ⊢
              subst e3
              rcases Nat.eq_zero_or_pos a with e0 | e0
              · subst e0
                rw [if_neg (show ¬ (0 : Int32) < nI 0 by decide)]
                exact OK.so ⟨0, Nat.zero_le _, rfl, hf2, h38, hlo, hhi, hgt, fun x k hx => by omega⟩
              · obtain ⟨b, rfl⟩ : ∃ b, a = b + 1 := ⟨a - 1, by omega⟩
                obtain ⟨j, hj⟩ : ∃ j, l[b]? = some j := ⟨l[b], List.getElem?_eq_getElem (by omega)⟩
                have hji := hmem b j hj
                obtain ⟨k28, k29⟩ := hlo b j (by omega) hj
                rw [if_pos (show (0 : Int32) < nI (b + 1) from nI_lt (a := 0) (by omega) (by omega)), nI_pred, m_ahead_eq hQ hf2.toM hi (by omega) (show b < 40 by omega) k28 k29]
                simp only [obs, ix_nI (show b < 40 by omega) (show 40 < 2 ^ 31 by decide), ix_nI (show b + 1 < 40 by omega) (show 40 < 2 ^ 31 by decide), lt1_eq]
                cases hlt : ltK f (τ.1 0 10) i j with
                | false =>
                  simp only [Bool.false_eq_true, if_false, if_true]
                  refine OK.so ⟨b + 1, ha, rfl, hf2, h38, hlo, hhi, hgt, fun x k hx hxk => ?_⟩
                  have hjl : ltK f (τ.1 0 10) j i = true := ltK_tot (by omega) hlt
                  by_cases e : x = b
                  · subst e; rw [hj] at hxk; cases hxk; exact hjl
                  · have hx1 := gq_lt hxk
                    have hx2 := gq_lt hj
                    have hp := List.pairwise_iff_getElem.mp hl2 x b hx1 hx2 (by omega)
                    rw [List.getElem?_eq_getElem hx1] at hxk
                    rw [List.getElem?_eq_getElem hx2] at hj
                    cases hxk
                    cases hj
                    exact ltK_trans hp hjl
                | true =>
                  simp only [if_true, if_neg (show ¬ (1 : Int32) = 0 by decide)]
                  have em : nI (b + 1) + (-1) = nI b := pk_m1 b
                  rw [em]
                  refine OK.so ⟨⟨b, by omega, rfl, (hf2.sx rfl).sx rfl, h38, fun x k hx hxk => ?_, fun x k hx hxk => ?_, fun x k hx hxk => ?_⟩, ?_⟩
                  · obtain ⟨d1, d2⟩ := hlo x k (by omega) hxk
                    simp only [sx_1]
                    constructor
                    · simp; rw [if_neg (by omega)]; exact d1
                    · simp; rw [if_neg (by omega)]; exact d2
                  · by_cases e : x = b
                    · subst e
                      rw [hj] at hxk
                      cases hxk
                      simp only [sx_1]
                      simp
                      exact ⟨k28, k29⟩
                    · obtain ⟨d1, d2⟩ := hhi x k (by omega) hxk
                      simp only [sx_1]
                      constructor
                      · simp; rw [if_neg (by omega)]; exact d1
                      · simp; rw [if_neg (by omega)]; exact d2
                  · by_cases e : x = b
                    · subst e
                      rw [hj] at hxk
                      cases hxk
                      exact hlt
                    · exact hgt x k (by omega) hxk
                  · show (nI b).toNatClampNeg < (nI (b + 1)).toNatClampNeg
                    rw [nI_clamp (by omega), nI_clamp (by omega)]
                    omega
            · show (nI l.length).toNatClampNeg < FU
              rw [nI_clamp (by omega)]
              exact FU_lt (by omega)
          · rintro ⟨a', τ2⟩ ⟨a, ha, e3, hf2, h38, hlo, hhi, hgt, hlt⟩
            simp only at e3 hf2 h38 hlo hhi ⊢
            subst e3
            simp only [ix_nI (show a < 40 by omega) (show 40 < 2 ^ 31 by decide), obs, lt1_eq]
            have e38 : (sx (sx τ2 0 28 a (nI i)) 0 29 a (f i)).1 0 0 38 = nI l.length := h38
            rw [e38, nI_1]
            refine OK.so (OK.so ⟨rfl, ((hf2.sx rfl).sx rfl).sx rfl, l.take a ++ i :: l.drop a, ?_, ins_pw hl2 hlt hgt, ?_, fun x k hx => ?_⟩)
            · rw [e2]
              exact (ins_perm l a i).trans (((List.Perm.cons i hl1)).trans (List.perm_append_singleton i _).symm)
            · have : (l.take a ++ i :: l.drop a).length = l.length + 1 := by
                have := (ins_perm l a i).length_eq
                simpa using this
              rw [this]
              simp [sx_1]
            · simp only [sx_1]
              rcases ins_get ha hx with ⟨d1, d2⟩ | ⟨d1, d2⟩ | ⟨d1, d2⟩
              · obtain ⟨f1, f2⟩ := hlo x k d1 d2
                simp
                rw [if_neg (by omega), if_neg (by omega)]
                exact ⟨f1, f2⟩
              · subst d1; subst d2
                simp
              · obtain ⟨f1, f2⟩ := hhi (x - 1) k (by omega) d2
                rw [show x - 1 + 1 = x by omega] at f1 f2
                simp
                rw [if_neg (by omega), if_neg (by omega)]
                exact ⟨f1, f2⟩
        · simp only [decide_eq_false hgd, Bool.false_eq_true, if_false, if_neg (show ¬ (1 : Int32) = 0 by decide), obs]
          exact keep (by unfold elB; rw [hm, decide_eq_false hgd]; rfl)
    · obtain ⟨i', τ1⟩ := s
      obtain ⟨e1, hf, l, hl1, hl2, hl3, hl4⟩ := hs'
      simp only at e1 hf hl3 hl4 ⊢
      subst e1
      rw [(hf 0 0 11 rfl).1, h.2.1.2.1, if_neg (nI_nlt (Nat.le_refl Q) (show Q < 2 ^ 31 by omega))]
      exact OK.so ⟨hf, l, hl1, hl2, hl3, fun x k hx => (hl4 x k hx).1⟩
  · rintro τ1 ⟨hf, l, hl1, hl2, hl3, hl4⟩
    rw [hl3]
    by_cases c : n < nI l.length
    · rw [if_pos c]
      exact OK.so ⟨hf, l, hl1, hl2, by rw [if_pos c], hl4⟩
    · rw [if_neg c]
      exact OK.so ⟨hf, l, hl1, hl2, by rw [if_neg c], hl4⟩
end CutM
