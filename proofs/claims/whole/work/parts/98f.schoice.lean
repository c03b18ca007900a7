/-! ===== choice, chosen ===== -/
section SChoice
variable {σ τ : St} {N : Nat → Nat} {U L E : Nat}
/-- the refusals of a choice -/
theorem wchoice (h : InvB σ τ U (N 1) (N 2) (N 3) (N 4) L E) {g : Nat → Int32} {a2 : Int32} {σ' τ' : St} (hT : TK σ τ (N 1) (N 2) g a2 σ' τ') (a3 : Int32) : ∃ τ2, MP τ (cpx τ g a2 (N 1) (N 2) (N 3) (N 4)) (mml τ g a2 (N 2)) τ2 ∧ ((p_PE_refusalOfChoice σ' a3 = some (-4) ∧ m_wrongChoice τ' a2 a3 = some (-4, τ2)) ∨ (p_PE_refusalOfChoice σ' a3 = some (-6) ∧ m_wrongChoice τ' a2 a3 = some (-6, τ2)) ∨ (p_PE_refusalOfChoice σ' a3 = some 0 ∧ m_wrongChoice τ' a2 a3 = some (0, τ2) ∧ (mml τ g a2 (N 2)).length ≤ 12 ∧ ∃ n, n ≤ (mml τ g a2 (N 2)).length ∧ a3 = nI n)) := by
  have hQ := h.2.2.2.1.1
  obtain ⟨t1, t2, t3, t4, t5, t6⟩ := id hT
  obtain ⟨τ2, a1, a2'⟩ := m_people_ok h t2 (pl := a2) (fun p hp => (t3 p hp).2)
  have hlen : (mml τ g a2 (N 2)).length ≤ 40 := Nat.le_trans (rf_len _ _) hQ
  have h40 : τ2.1 0 0 40 = nI (mml τ g a2 (N 2)).length := a2'.2.1
  refine ⟨τ2, a2', ?_⟩
  unfold p_PE_refusalOfChoice m_wrongChoice
  rw [a1, obs, t5, h40]
  by_cases h1 : a3 < 0
  · left
    rw [if_pos h1, if_pos h1]
    exact ⟨rfl, rfl⟩
  · right
    rw [if_neg h1, if_neg h1]
    by_cases h2 : 12 < (mml τ g a2 (N 2)).length
    · left
      have e : (12 : Int32) < nI (mml τ g a2 (N 2)).length := nI_lt (a := 12) h2 (by omega)
      rw [if_pos e, if_pos e]
      exact ⟨rfl, rfl⟩
    · have e : ¬ (12 : Int32) < nI (mml τ g a2 (N 2)).length := nI_nlt (a := 12) (by omega) (by decide)
      rw [if_neg e, if_neg e]
      obtain ⟨n, n1, rfl⟩ := nI_of h1
      by_cases h3 : (mml τ g a2 (N 2)).length < n
      · left
        rw [if_pos (nI_lt h3 n1), if_pos (nI_lt h3 n1)]
        exact ⟨rfl, rfl⟩
      · right
        have e3 : ¬ nI (mml τ g a2 (N 2)).length < nI n := nI_nlt (by omega) (by omega)
        rw [if_neg e3, if_neg e3]
        exact ⟨rfl, rfl, by omega, n, by omega, rfl⟩
theorem choose_both (hI : Inv σ τ N) (h : InvB σ τ U (N 1) (N 2) (N 3) (N 4) L E) {g : Nat → Int32} {a2 : Int32} {σ' τ' τ2 : St} (hT : TK σ τ (N 1) (N 2) g a2 σ' τ') (hP : MP τ (cpx τ g a2 (N 1) (N 2) (N 3) (N 4)) (mml τ g a2 (N 2)) τ2) (hM : (mml τ g a2 (N 2)).length ≤ 12) {n : Nat} (hn : n ≤ (mml τ g a2 (N 2)).length) : ∃ σ2 σ3 τ3, p_Chooser_gather σ' = some σ2 ∧ p_Chooser_choose σ2 (nI n) = some σ3 ∧ m_findChoice τ2 (nI n) = some τ3 ∧ FrH σ' σ3 ∧ σ3.1 0 4 5 = nI (mml τ g a2 (N 2)).length ∧ MP τ (cpx τ g a2 (N 1) (N 2) (N 3) (N 4)) (mml τ g a2 (N 2)) τ3 ∧ ∃ o : Option Nat, (∀ b, o = some b → b < 2 ^ (mml τ g a2 (N 2)).length) ∧ WB (cpx τ g a2 (N 1) (N 2) (N 3) (N 4)) o σ3 ∧ MB (cpx τ g a2 (N 1) (N 2) (N 3) (N 4)) o τ3 ∧ Inv σ3 τ3 N := by
  obtain ⟨σ2, p1, p2⟩ := p_cgather_ok h hT hM
  obtain ⟨σ3, q1, q2, q3⟩ := p_choose_ok (c := cpx τ g a2 (N 1) (N 2) (N 3) (N 4)) hM p2 hn
  obtain ⟨τ3, r1, r2, r3⟩ := m_choice_ok h hM hP hn
  exact ⟨σ2, σ3, τ3, p1, q1, r1, q2.1.1, q2.1.2.1, r2.1, _, fun b hb => cBst_lt hb, q3, r3, hI.fr (hT.1.trans (FrH.toC q2.1.1)) r2.1.1⟩
theorem choice_fin (hI : Inv σ τ N) (h : InvB σ τ U (N 1) (N 2) (N 3) (N 4) L E) {g : Nat → Int32} {a2 : Int32} {σ' τ' : St} (hT : TK σ τ (N 1) (N 2) g a2 σ' τ') (a3 a4 : Int32) : ∃ (r : Int32) (σ2 τ2 : St), (Option.bind (p_PE_refusalOfChoice σ' a3) fun r3 => (if r3 = 0 then (Option.bind (p_Chooser_gather σ') fun r5 => (Option.bind (p_Chooser_choose r5 a3) fun r7 => (if r7.1 0 4 10 = 0 then some ((-9 : Int32), r7) else (if a4 = 0 then some (r7.1 0 4 11, r7) else some (r7.1 0 4 12, r7))))) else (Option.bind (p_PE_refuse σ' r3) fun r9 => some (r9.1, r9.2)))) = some (r, σ2) ∧ (Option.bind (m_wrongChoice τ' a2 a3) fun r5 => (if r5.1 < 0 then (Option.bind (m_refuse r5.2 r5.1) fun r9 => some (r9.1, r9.2)) else (Option.bind (m_findChoice r5.2 a3) fun r7 => (if r7.1 0 0 42 < 0 then some ((-9 : Int32), r7) else (if a4 = 0 then some (r7.1 0 0 43, r7) else some (r7.1 0 0 44, r7)))))) = some (r, τ2) ∧ Inv σ2 τ2 N := by
  obtain ⟨τ2, hP, hw⟩ := wchoice h hT a3
  have hIr : ∀ c, Inv (rfC σ' c) (rfM τ2 c) N := fun c => inv_rf (hI.fr hT.1 hP.1) c
  rcases hw with ⟨w1, w2⟩ | ⟨w1, w2⟩ | ⟨w1, w2, hM, n, hn, rfl⟩
  · rw [w1, w2, obs, obs, if_neg ne_m4, p_r4, obs, if_pos (show ((-4 : Int32), τ2).1 < 0 from lt_m4), show m_refuse ((-4 : Int32), τ2).2 ((-4 : Int32), τ2).1 = some (-4, rfM τ2 4) from m_r4 τ2, obs]
    exact ⟨-4, rfC σ' 4, rfM τ2 4, rfl, rfl, hIr 4⟩
  · rw [w1, w2, obs, obs, if_neg ne_m6, p_r6, obs, if_pos (show ((-6 : Int32), τ2).1 < 0 from lt_m6), show m_refuse ((-6 : Int32), τ2).2 ((-6 : Int32), τ2).1 = some (-6, rfM τ2 6) from m_r6 τ2, obs]
    exact ⟨-6, rfC σ' 6, rfM τ2 6, rfl, rfl, hIr 6⟩
  · obtain ⟨σ2, σ3, τ3, p1, q1, r1, q2, q45, r2, o, ho, hW, hB, hfin⟩ := choose_both hI h hT hP hM hn
    have r1' : m_findChoice ((0 : Int32), τ2).2 (nI n) = some τ3 := r1
    rw [w1, w2, obs, obs, if_pos rfl, p1, obs, q1, obs, if_neg (show ¬ ((0 : Int32), τ2).1 < 0 by show ¬ (0 : Int32) < 0; decide), r1', obs]
    cases o with
    | none =>
      have h1 : σ3.1 0 4 10 = 0 := hW
      have h2 : τ3.1 0 0 42 = -1 := hB
      rw [if_pos h1, h2, if_pos (show (-1 : Int32) < 0 by decide)]
      exact ⟨-9, σ3, τ3, rfl, rfl, hfin⟩
    | some b =>
      obtain ⟨v1, v2, v3, v4, v5⟩ := hW
      obtain ⟨u1, u2, u3, u4⟩ := hB
      have hb := ho b rfl
      have hp12 := p12 hM
      rw [v1, if_neg (show ¬ (1 : Int32) = 0 by decide), u1, if_neg (nI_pos (by omega)), v3, v4, u2, u3]
      by_cases c : a4 = 0
      · rw [if_pos c, if_pos c]
        exact ⟨_, σ3, τ3, rfl, rfl, hfin⟩
      · rw [if_neg c, if_neg c]
        exact ⟨_, σ3, τ3, rfl, rfl, hfin⟩
/-- where one stands among a pool's people -/
theorem p_place_ok {ml : List Nat} {σ' : St} (hl : ml.length ≤ 40) (h6 : σ'.1 0 2 6 = nI ml.length) (hm : ∀ x k : Nat, ml[x]? = some k → σ'.2 0 17 x = some k) (k : Nat) : OK (p_Pools_placeOf σ' k) (fun r => (∃ x, r = nI x ∧ ml[x]? = some k) ∨ (k ∉ ml ∧ r = -1)) := by
  unfold p_Pools_placeOf
  refine OK.bi (OK.mono (R := fun e => (∃ x, e = .inr (nI x) ∧ ml[x]? = some k) ∨ (k ∉ ml ∧ e = .inl ())) ?_ ?_)
  · refine OK.itr ml.length (fun i s => s = nI i ∧ ∀ y, y < i → ml[y]? ≠ some k) ⟨rfl, fun y hy => by omega⟩ (fun i s hi hs' => ?_) (fun s hs' => ?_) (FU_lt (by omega))
    · obtain ⟨e1, hI⟩ := hs'
      subst e1
      obtain ⟨j, hj⟩ : ∃ j, ml[i]? = some j := ⟨ml[i], List.getElem?_eq_getElem hi⟩
      rw [h6, if_pos (nI_lt hi (by omega)), p_member_eq hl h6 hm hj, obs, nI_1]
      by_cases c : j = k
      · subst c
        rw [if_pos rfl]
        exact OK.so (Or.inl ⟨i, rfl, hj⟩)
      · rw [if_neg (fun e => c (Option.some.inj e))]
        refine OK.so ⟨rfl, fun y hy => ?_⟩
        by_cases e : y = i
        · subst e; rw [hj]; exact fun e => c (Option.some.inj e)
        · exact hI y (by omega)
    · obtain ⟨e1, hI⟩ := hs'
      subst e1
      rw [h6, if_neg (nI_nlt (Nat.le_refl _) (by omega))]
      refine OK.so (Or.inr ⟨fun hmm => ?_, rfl⟩)
      obtain ⟨y, hy⟩ := List.mem_iff_getElem?.mp hmm
      exact hI y (gq_lt hy) hy
  · rintro e (⟨x, rfl, h2⟩ | ⟨h1, rfl⟩)
    · exact OK.so (Or.inl ⟨x, rfl, h2⟩)
    · exact OK.so (Or.inr ⟨h1, rfl⟩)
theorem rf_inj {p : Nat → Bool} {Q x y k : Nat} (hx : ((List.range Q).filter p)[x]? = some k) (hy : ((List.range Q).filter p)[y]? = some k) : x = y := by
  have hnd : ((List.range Q).filter p).Nodup := List.Pairwise.sublist List.filter_sublist List.nodup_range
  have h1 := gq_lt hx
  have h2 := gq_lt hy
  exact (List.getElem?_inj h1 hnd).mp (by rw [hx, hy])
theorem chosen_fin (hI : Inv σ τ N) (h : InvB σ τ U (N 1) (N 2) (N 3) (N 4) L E) {g : Nat → Int32} {a2 : Int32} {σ' τ' : St} (hT : TK σ τ (N 1) (N 2) g a2 σ' τ') (a3 : Int32) {k : Nat} (hk : k < N 2) : ∃ (r : Int32) (σ2 τ2 : St), (Option.bind (p_PE_refusalOfChoice σ' a3) fun r9 => (if r9 = 0 then (Option.bind (p_Chooser_gather σ') fun r11 => (Option.bind (p_Chooser_choose r11 a3) fun r13 => (Option.bind (p_Pools_placeOf r13 k) fun r15 => (Option.bind (p_Chooser_goes r13 r15) fun r17 => (if r17 = 0 then some ((0 : Int32), r13) else some ((1 : Int32), r13)))))) else (Option.bind (p_PE_refuse σ' r9) fun r19 => some (r19.1, r19.2)))) = some (r, σ2) ∧ (Option.bind (m_wrongChoice τ' a2 a3) fun r7 => (if r7.1 < 0 then (Option.bind (m_refuse r7.2 r7.1) fun r23 => some (r23.1, r23.2)) else (Option.bind (m_findChoice r7.2 a3) fun r9 => (Option.bind (itr0 (S := Int32 × Int32) (E := Int32) (fun s11 => (if s11.2 < r9.1 0 0 40 then (if r9.1 0 0 42 < 0 then some (.inr s11.1) else (Option.bind (ix 40 s11.2) fun i19 => (Option.bind (α := Int32) ((if r9.1 0 30 i19 = nI k then some (((r9.1 0 0 42) >>> (s11.2 &&& 31)) &&& (1 : Int32)) else some s11.1)) fun t20 => some (.inl (t20, s11.2 + (1 : Int32)))))) else some (.inr s11.1))) FU ((0 : Int32), (0 : Int32))) fun e16 => some (e16, r9))))) = some (r, τ2) ∧ Inv σ2 τ2 N := by
  have hQ := h.2.2.2.1.1
  obtain ⟨τ2, hP, hw⟩ := wchoice h hT a3
  have hIr : ∀ c, Inv (rfC σ' c) (rfM τ2 c) N := fun c => inv_rf (hI.fr hT.1 hP.1) c
  rcases hw with ⟨w1, w2⟩ | ⟨w1, w2⟩ | ⟨w1, w2, hM, n, hn, rfl⟩
  · rw [w1, w2, obs, obs, if_neg ne_m4, p_r4, obs, if_pos (show ((-4 : Int32), τ2).1 < 0 from lt_m4), show m_refuse ((-4 : Int32), τ2).2 ((-4 : Int32), τ2).1 = some (-4, rfM τ2 4) from m_r4 τ2, obs]
    exact ⟨-4, rfC σ' 4, rfM τ2 4, rfl, rfl, hIr 4⟩
  · rw [w1, w2, obs, obs, if_neg ne_m6, p_r6, obs, if_pos (show ((-6 : Int32), τ2).1 < 0 from lt_m6), show m_refuse ((-6 : Int32), τ2).2 ((-6 : Int32), τ2).1 = some (-6, rfM τ2 6) from m_r6 τ2, obs]
    exact ⟨-6, rfC σ' 6, rfM τ2 6, rfl, rfl, hIr 6⟩
  · obtain ⟨σ2, σ3, τ3, p1, q1, r1, q2, q45, r2, o, ho, hW, hB, hfin⟩ := choose_both hI h hT hP hM hn
    have r1' : m_findChoice ((0 : Int32), τ2).2 (nI n) = some τ3 := r1
    obtain ⟨t1, t2, t3, t4, t5, t6⟩ := id hT
    obtain ⟨pr, z1, z2⟩ := p_place_ok (ml := mml τ g a2 (N 2)) (σ' := σ3) (by omega) (by rw [(q2 0 2 6 rfl).1]; exact t5) (fun x k hx => by rw [(q2 0 17 x rfl).2]; exact t6 x k hx) k
    have h40 : τ3.1 0 0 40 = nI (mml τ g a2 (N 2)).length := r2.2.1
    rw [w1, w2, obs, obs, if_pos rfl, p1, obs, q1, obs, z1, obs, if_neg (show ¬ ((0 : Int32), τ2).1 < 0 by show ¬ (0 : Int32) < 0; decide), r1', obs]
    unfold p_Chooser_goes
    cases o with
    | none =>
      have h1 : σ3.1 0 4 10 = 0 := hW
      have h2 : τ3.1 0 0 42 = -1 := hB
      rw [if_pos h1, obs, if_pos rfl]
      refine ⟨0, σ3, τ3, rfl, ?_, hfin⟩
      refine itr_bd 0 (fun _ => ((0 : Int32), (0 : Int32))) 0 (FU_lt (by decide)) rfl (fun i hi => by omega) ?_ rfl
      rw [h2, if_pos (show (-1 : Int32) < 0 by decide)]
      split <;> rfl
    | some b =>
      obtain ⟨v1, v2, v3, v4, v5⟩ := hW
      obtain ⟨u1, u2, u3, u4⟩ := hB
      have hb := ho b rfl
      have hp12 := p12 hM
      rw [v1, if_neg (show ¬ (1 : Int32) = 0 by decide), v2, q45]
      -- the reference's answer
      have hloop : ∀ r : Int32, (∀ x, (mml τ g a2 (N 2))[x]? = some k → r = nI (b / 2 ^ x % 2)) → (k ∉ mml τ g a2 (N 2) → r = 0) → (Option.bind (itr0 (S := Int32 × Int32) (E := Int32) (fun s11 => (if s11.2 < τ3.1 0 0 40 then (if τ3.1 0 0 42 < 0 then some (.inr s11.1) else (Option.bind (ix 40 s11.2) fun i19 => (Option.bind (α := Int32) ((if τ3.1 0 30 i19 = nI k then some (((τ3.1 0 0 42) >>> (s11.2 &&& 31)) &&& (1 : Int32)) else some s11.1)) fun t20 => some (.inl (t20, s11.2 + (1 : Int32)))))) else some (.inr s11.1))) FU ((0 : Int32), (0 : Int32))) fun e16 => some (e16, τ3)) = some (r, τ3) := by
        intro r hr1 hr2
        have hk' : OK (itr0 (S := Int32 × Int32) (E := Int32) (fun s11 => (if s11.2 < τ3.1 0 0 40 then (if τ3.1 0 0 42 < 0 then some (.inr s11.1) else (Option.bind (ix 40 s11.2) fun i19 => (Option.bind (α := Int32) ((if τ3.1 0 30 i19 = nI k then some (((τ3.1 0 0 42) >>> (s11.2 &&& 31)) &&& (1 : Int32)) else some s11.1)) fun t20 => some (.inl (t20, s11.2 + (1 : Int32)))))) else some (.inr s11.1))) FU ((0 : Int32), (0 : Int32))) (fun e => e = r) := by
          refine OK.itr (mml τ g a2 (N 2)).length (fun i s => s.2 = nI i ∧ ((∃ x, x < i ∧ (mml τ g a2 (N 2))[x]? = some k ∧ s.1 = r) ∨ ((∀ x, x < i → (mml τ g a2 (N 2))[x]? ≠ some k) ∧ s.1 = 0))) ⟨rfl, Or.inr ⟨fun x hx => by omega, rfl⟩⟩ (fun i s hi hs' => ?_) (fun s hs' => ?_) (FU_lt (by omega))
          · obtain ⟨a, i'⟩ := s
            obtain ⟨e1, hd⟩ := hs'
            simp only at e1 hd ⊢
            subst e1
            obtain ⟨j, hj⟩ : ∃ j, (mml τ g a2 (N 2))[i]? = some j := ⟨(mml τ g a2 (N 2))[i], List.getElem?_eq_getElem hi⟩
            have hjQ := (rf_lt hj).1
            rw [h40, if_pos (nI_lt hi (by omega)), u1, if_neg (nI_pos (show b < 2 ^ 31 by omega)), ix_nI (show i < 40 by omega) (by decide), obs, r2.2.2.2 i j hj, nI_1]
            by_cases c : j = k
            · subst c
              rw [if_pos rfl, obs, bitv (by omega) (by omega)]
              exact OK.so ⟨rfl, Or.inl ⟨i, by omega, hj, (hr1 i hj).symm⟩⟩
            · rw [if_neg (fun e => c (nI_inj (by omega) (by omega) e)), obs]
              refine OK.so ⟨rfl, ?_⟩
              rcases hd with ⟨x, x1, x2, x3⟩ | ⟨x1, x2⟩
              · exact Or.inl ⟨x, by omega, x2, x3⟩
              · refine Or.inr ⟨fun x hx => ?_, x2⟩
                by_cases e : x = i
                · subst e; rw [hj]; exact fun e => c (Option.some.inj e)
                · exact x1 x (by omega)
          · obtain ⟨a, i'⟩ := s
            obtain ⟨e1, hd⟩ := hs'
            simp only at e1 hd ⊢
            subst e1
            rw [h40, if_neg (nI_nlt (Nat.le_refl _) (by omega))]
            refine OK.so ?_
            show a = r
            rcases hd with ⟨x, x1, x2, x3⟩ | ⟨x1, x2⟩
            · exact x3
            · rw [x2, hr2 (fun hmm => ?_)]
              obtain ⟨y, hy⟩ := List.mem_iff_getElem?.mp hmm
              exact x1 y (gq_lt hy) hy
        obtain ⟨e, y1, y2⟩ := hk'
        rw [y1, y2]
        rfl
      rcases z2 with ⟨x, rfl, hx⟩ | ⟨hno, rfl⟩
      · have hxl := gq_lt hx
        have hbit := bitI (m := b) (u := x) (by omega) (by omega)
        have h2 : b / 2 ^ x % 2 < 2 := Nat.mod_lt _ (by decide)
        rw [if_neg (nI_pos (show x < 2 ^ 31 by omega)), if_pos (nI_lt hxl (by omega))]
        have hun : ∀ y, (mml τ g a2 (N 2))[y]? = some k → y = x := fun y hy => rf_inj hy hx
        by_cases cb : b.testBit x = true
        · rw [if_pos (hbit.mpr cb), obs, if_neg (show ¬ (1 : Int32) = 0 by decide)]
          refine ⟨1, σ3, τ3, rfl, hloop 1 (fun y hy => ?_) (fun hno => absurd (List.mem_of_getElem? hx) hno), hfin⟩
          rw [hun y hy, (tb_iff b x).mp cb]
          rfl
        · rw [if_neg (fun e => cb (hbit.mp e)), obs, if_pos rfl]
          refine ⟨0, σ3, τ3, rfl, hloop 0 (fun y hy => ?_) (fun hno => rfl), hfin⟩
          have : ¬ b / 2 ^ x % 2 = 1 := fun e => cb ((tb_iff b x).mpr e)
          rw [hun y hy, show b / 2 ^ x % 2 = 0 by omega]
          rfl
      · rw [if_pos (show (-1 : Int32) < 0 by decide), obs, if_pos rfl]
        exact ⟨0, σ3, τ3, rfl, hloop 0 (fun y hy => absurd (List.mem_of_getElem? hy) hno) (fun _ => rfl), hfin⟩
end SChoice
theorem s_choice : S_choice Inv := by
  intro σ τ N a1 a2 a3 a4 hI
  obtain ⟨U, L, E, h⟩ := id hI
  unfold p_PE_choice m_choice
  rcases take_both h a1 a2 with ⟨σ', τ', c1, c2, c3, c4⟩ | ⟨σ', τ', g, c1, c2, hT, hpl⟩
  · rw [c1, c2, obs, obs, if_pos (show ((0 : Int32), σ').1 = 0 from rfl), if_pos (show ((0 : Int32), τ').1 = 0 from rfl), p_r1, m_r1, obs, obs]
    exact ⟨-1, rfC σ' 1, rfM τ' 1, rfl, rfl, inv_rf (hI.fr c3 c4) 1⟩
  · rw [c1, c2, obs, obs, if_neg (show ¬ ((1 : Int32), σ').1 = 0 by show ¬ (1 : Int32) = 0; decide), if_neg (show ¬ ((1 : Int32), τ').1 = 0 by show ¬ (1 : Int32) = 0; decide)]
    rcases in_or a4 (n := 2) (by decide) with ⟨w, hw, rfl⟩ | ⟨hno, -⟩
    · rw [inl_t 1 (c := 1) rfl (by omega) (by decide), obs, if_neg (show ¬ (1 : Int32) = 0 by decide)]
      rcases (show w = 0 ∨ w = 1 by omega) with rfl | rfl
      · rw [if_pos (show nI 0 = 0 from rfl)]
        exact choice_fin hI h hT a3 (nI 0)
      · rw [if_neg (show ¬ nI 1 = 0 by decide), if_pos (show nI 1 = 1 from rfl)]
        exact choice_fin hI h hT a3 (nI 1)
    · rw [inl_f 1 (c := 1) rfl (by decide) (fun k hk => hno k (by omega)), obs, if_pos rfl, if_neg (show ¬ a4 = 0 from hno 0 (by omega)), if_neg (show ¬ a4 = 1 from hno 1 (by omega)), p_r2, m_r2, obs, obs]
      exact ⟨-2, rfC σ' 2, rfM τ' 2, rfl, rfl, inv_rf (hI.fr hT.1 hT.2.1) 2⟩
theorem s_chosen : S_chosen Inv := by
  intro σ τ N a1 a2 a3 a4 hI
  obtain ⟨U, L, E, h⟩ := id hI
  have hq := h.2.2.2.1
  have hQ := hq.1
  unfold p_PE_chosen m_chosen
  rcases in_or a4 (n := N 2) (by omega) with ⟨k, hk, rfl⟩ | ⟨hno, -⟩
  · rw [personAt_t hq hk, obs, oes]
    rcases take_both h a1 a2 with ⟨σ', τ', c1, c2, c3, c4⟩ | ⟨σ', τ', g, c1, c2, hT, hpl⟩
    · rw [c1, c2, obs, obs, if_pos (show ((0 : Int32), σ').1 = 0 from rfl), if_pos (show ((0 : Int32), τ').1 = 0 from rfl), p_r1, m_r1, obs, obs]
      exact ⟨-1, rfC σ' 1, rfM τ' 1, rfl, rfl, inv_rf (hI.fr c3 c4) 1⟩
    · have hpk : m_isPerson ((1 : Int32), τ').2 (nI k) = some 1 := isPerson_t (h.wk.fr hT.2.1).2.1 hk
      rw [c1, c2, obs, obs, if_neg (show ¬ ((1 : Int32), σ').1 = 0 by show ¬ (1 : Int32) = 0; decide), if_neg (show ¬ ((1 : Int32), τ').1 = 0 by show ¬ (1 : Int32) = 0; decide), hpk, obs, if_neg (show ¬ (1 : Int32) = 0 by decide)]
      exact chosen_fin hI h hT a3 hk
  · rw [personAt_f hq hno, obs, oen, p_r1, obs]
    rcases take_both h a1 a2 with ⟨σ', τ', c1, c2, c3, c4⟩ | ⟨σ', τ', g, c1, c2, hT, hpl⟩
    · rw [c2, obs, if_pos (show ((0 : Int32), τ').1 = 0 from rfl), m_r1, obs]
      exact ⟨-1, rfC σ 1, rfM τ' 1, rfl, rfl, inv_rf (hI.fr (Fr.refl _) c4) 1⟩
    · have hpk : m_isPerson ((1 : Int32), τ').2 a4 = some 0 := isPerson_f (h.wk.fr hT.2.1).2.1 hno
      rw [c2, obs, if_neg (show ¬ ((1 : Int32), τ').1 = 0 by show ¬ (1 : Int32) = 0; decide), hpk, obs, if_pos rfl, m_r1, obs]
      exact ⟨-1, rfC σ 1, rfM τ' 1, rfl, rfl, inv_rf (hI.fr (Fr.refl _) hT.2.1) 1⟩
