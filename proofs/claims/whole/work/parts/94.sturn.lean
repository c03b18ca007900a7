/-! ===== turning ===== -/
theorem prtf_fr {τ τ' : St} (t2 : FrM τ τ') (T R w : Nat) : (fun k => prt τ' T R k (τ'.1 0 0 0) w) = (fun k => prt τ T R k (τ.1 0 0 0) w) := by
  funext k
  rw [prt_fr t2, (t2 0 0 0 rfl).1]
theorem f10_fr {τ τ' : St} (t2 : FrM τ τ') : τ'.1 0 10 = τ.1 0 10 := funext fun k => (t2 0 10 k rfl).1
theorem mem_ell {τ : St} {g : Nat → Int32} {pl : Int32} {Q k : Nat} (hk : k < Q) : k ∈ ell τ g pl Q ↔ mmB τ g pl k = true ∧ τ.1 0 15 k < τ.1 0 0 0 := by
  rw [List.mem_filter, List.mem_range]
  unfold elB
  rw [Bool.and_eq_true, decide_eq_true_iff]
  exact ⟨fun c => c.2, fun c => ⟨hk, c⟩⟩
section STurn
variable {σ τ : St} {N : Nat → Nat} {U L E : Nat}
/-- both, where all is as it must be -/
theorem turn_fin (hI : Inv σ τ N) (h : InvB σ τ U (N 1) (N 2) (N 3) (N 4) L E) {g : Nat → Int32} {a2 : Int32} {σ' τ' σ2 : St} (hT : TK σ τ (N 1) (N 2) g a2 σ' τ') (hR : RG σ (ell τ g a2 (N 2)) (fun k => mk τ (N 3) (N 4) k (τ.1 0 0 0)) σ2) {m k x w : Nat} (hm : m ≤ 40) (hk : k < N 2) (hx : (ell τ g a2 (N 2))[x]? = some k) (hw : w < 4) : ∃ (r : Int32) (σ3 τ3 : St), p_Ranks_turnedBy σ2 (nI x) (nI m) (nI w) = some (r, σ3) ∧ (Option.bind (m_isCut τ' (nI k) a2 (nI m)) fun r19 => (Option.bind (ix 4 (nI w)) fun i21 => (Option.bind (itr0 (S := Int32 × Int32 × St) (E := Int32 × St) (fun s22 => (if (60 : Int32) < s22.2.1 then some (.inr (s22.1, s22.2.2)) else (if s22.1 = (-9 : Int32) then (Option.bind (itr0 (S := Int32 × Int32 × St) (E := Int32 × St) (fun s32 => (if s32.2.1 < (2 : Int32) then (if s32.1 = (-9 : Int32) then (Option.bind (α := Int32) ((if s32.2.1 = 0 then some ((r19.2.1 0 17 i21) + s22.2.1) else some ((r19.2.1 0 17 i21) - s22.2.1))) fun t40 => (Option.bind (m_in t40 (0 : Int32) (60 : Int32)) fun r43 => (Option.bind (α := Int32 × St) ((if r43 = 0 then some (s32.1, s32.2.2) else (Option.bind (ix 4 (nI w)) fun i48 => (lt1 (sx s32.2.2 0 17 i48 t40) fun σ49 => (Option.bind (m_isCut σ49 (nI k) a2 (nI m)) fun r50 => (Option.bind (α := Int32) ((if r50.1 = r19.1 then some (-9 : Int32) else some (s22.2.1 + ((1000 : Int32) * s32.2.1)))) fun t52 => some (t52, r50.2))))))) fun t45 => some (.inl (t45.1, s32.2.1 + (1 : Int32), t45.2))))) else some (.inr (s32.1, s32.2.2))) else some (.inr (s32.1, s32.2.2)))) FU (s22.1, (0 : Int32), s22.2.2)) fun e37 => some (.inl (e37.1, s22.2.1 + (1 : Int32), e37.2))) else some (.inr (s22.1, s22.2.2))))) FU ((-9 : Int32), (1 : Int32), r19.2)) fun e27 => (Option.bind (ix 4 (nI w)) fun i30 => (lt1 (sx e27.2 0 17 i30 (r19.2.1 0 17 i21)) fun σ31 => some (e27.1, σ31)))))) = some (r, τ3) ∧ Inv σ3 τ3 N := by
  obtain ⟨t1, t2, t3, t4, t5, t6⟩ := id hT
  have hQ := h.2.2.2.1.1
  obtain ⟨nw, hn1, hn2⟩ := rg_nI (hi := 20) (h.1.2.2.1 w hw).2
  have hlen : (ell τ g a2 (N 2)).length ≤ 40 := Nat.le_trans (rf_len _ _) hQ
  obtain ⟨⟨r1, σ3⟩, p1, p2, p3⟩ := p_turned_ok h hR hlen (fun x k hx => (rf_lt hx).1) hm hx hw hn2 hn1
  obtain ⟨⟨r2, τ3⟩, q1, q2, q3⟩ := m_turn_ok (h.wk.fr t2) (g := g) (pl := a2) (fun p hp => (t3 p hp).2) hm hk (by rw [ell_fr t2]; exact List.mem_of_getElem? hx) hw (by rw [(t2 0 17 w rfl).1]; exact hn2) hn1
  rw [ell_fr t2, mkf_fr t2, prtf_fr t2, f10_fr t2] at q3
  simp only at p2 p3 q2 q3
  refine ⟨r1, σ3, τ3, p1, ?_, hI.fr p2 (t2.trans q2)⟩
  rw [q1, p3, q3]
end STurn
theorem s_turning : S_turning Inv := by
  intro σ τ N a1 a2 a3 a4 a5 hI
  obtain ⟨U, L, E, h⟩ := id hI
  have hq := h.2.2.2.1
  have hQ := hq.1
  unfold p_PE_turning m_turning
  rcases in_or a4 (n := N 2) (by omega) with ⟨k, hk, rfl⟩ | ⟨hno, -⟩
  · rw [personAt_t hq hk, obs, oes]
    rcases take_both h a1 a2 with ⟨σ', τ', c1, c2, c3, c4⟩ | ⟨σ', τ', g, c1, c2, hT, hpl⟩
    · rw [c1, c2, obs, obs, if_pos (show ((0 : Int32), σ').1 = 0 from rfl), if_pos (show ((0 : Int32), τ').1 = 0 from rfl), p_r1, m_r1, obs, obs]
      exact ⟨-1, rfC σ' 1, rfM τ' 1, rfl, rfl, inv_rf (hI.fr c3 c4) 1⟩
    · obtain ⟨t1, t2, t3, t4, t5, t6⟩ := id hT
      have hwk := h.wk.fr t2
      obtain ⟨σ2, f1, f2⟩ := p_rgather_ok h hT
      have hlen : (ell τ g a2 (N 2)).length ≤ 40 := Nat.le_trans (rf_len _ _) hQ
      have hof := isOf_wk (pl := a2) hwk (g := g) (fun p hp => (t3 p hp).2) hk
      have hmm : mmB τ' g a2 k = mmB τ g a2 k := by unfold mmB; rw [(t2 0 12 k rfl).1]
      rw [hmm] at hof
      have hgu := guard_eq hwk.2.1 hk
      rw [(t2 0 15 k rfl).1, (t2 0 0 0 rfl).1] at hgu
      obtain ⟨r, g1, g2⟩ := p_rplace_ok f2 hlen k
      have hpk := isPerson_t hwk.2.1 hk
      rw [c1, c2, obs, obs, if_neg (show ¬ ((1 : Int32), σ').1 = 0 by show ¬ (1 : Int32) = 0; decide), if_neg (show ¬ ((1 : Int32), τ').1 = 0 by show ¬ (1 : Int32) = 0; decide)]
      have f1' : p_Ranks_gather ((1 : Int32), σ').2 = some σ2 := f1
      have hpk' : m_isPerson ((1 : Int32), τ').2 (nI k) = some 1 := hpk
      have hof' : m_isOf ((1 : Int32), τ').2 (nI k) a2 = some (if mmB τ g a2 k then 1 else 0) := hof
      have hgu' : m_isGuarded ((1 : Int32), τ').2 (nI k) = some (if decide (τ.1 0 15 k < τ.1 0 0 0) then 0 else 1) := hgu
      rw [f1', obs, g1, obs, hpk', obs, if_neg (show ¬ (1 : Int32) = 0 by decide), hof', obs]
      have hr1 : ∀ c : Nat, m_refuse ((1 : Int32), τ').2 (-1) = some (-1, rfM τ' 1) ∧ m_refuse ((1 : Int32), τ').2 (-2) = some (-2, rfM τ' 2) ∧ m_refuse ((1 : Int32), τ').2 (-4) = some (-4, rfM τ' 4) ∧ m_refuse ((1 : Int32), τ').2 (-6) = some (-6, rfM τ' 6) := fun _ => ⟨m_r1 τ', m_r2 τ', m_r4 τ', m_r6 τ'⟩
      have hIf : ∀ c, Inv (rfC σ2 c) (rfM τ' c) N := fun c => inv_rf (hI.fr f2.1 t2) c
      rcases g2 with ⟨m1, x, rfl, hx⟩ | ⟨m1, rfl⟩
      · have hmem := (mem_ell hk).mp m1
        have hxl := gq_lt hx
        rw [hmem.1, if_pos rfl, if_neg (show ¬ (1 : Int32) = 0 by decide), hgu', obs, decide_eq_true hmem.2, if_pos rfl, if_pos rfl, if_neg (nI_pos (by omega))]
        rcases in_or a5 (n := 4) (by decide) with ⟨w, hw, rfl⟩ | ⟨hno, -⟩
        · rw [inl_t 3 (c := 3) rfl (by omega) (by decide), obs, if_neg (show ¬ (1 : Int32) = 0 by decide), if_neg (nI_pos (by omega)), if_pos (show nI w < 4 from nI_lt (b := 4) hw (by decide))]
          rcases wrong_cases a3 with ⟨w1, w2⟩ | ⟨w1, w2⟩ | ⟨w1, w2, m, hm, rfl⟩
          · rw [w1, w2, obs, obs, if_neg ne_m4, if_pos lt_m4, obs, p_r4, (hr1 0).2.2.1, obs, obs]
            exact ⟨-4, rfC σ2 4, rfM τ' 4, rfl, rfl, hIf 4⟩
          · rw [w1, w2, obs, obs, if_neg ne_m6, if_pos lt_m6, obs, p_r6, (hr1 0).2.2.2, obs, obs]
            exact ⟨-6, rfC σ2 6, rfM τ' 6, rfl, rfl, hIf 6⟩
          · rw [w1, w2, obs, obs, if_pos rfl, if_neg (show ¬ (0 : Int32) < 0 by decide), bind_pair]
            exact turn_fin hI h hT f2 hm hk hx hw
        · rw [inl_f 3 (c := 3) rfl (by decide) (fun k hk => hno k (by omega)), obs, if_pos rfl, (hr1 0).2.1, obs]
          by_cases h1 : a5 < 0
          · rw [if_pos h1, p_r2, obs]
            exact ⟨-2, rfC σ2 2, rfM τ' 2, rfl, rfl, hIf 2⟩
          · rw [if_neg h1, if_neg (show ¬ a5 < 4 from Int32.not_lt.mpr (out_lt (n := 4) (by decide) hno h1)), p_r2, obs]
            exact ⟨-2, rfC σ2 2, rfM τ' 2, rfl, rfl, hIf 2⟩
      · rw [if_pos (show (-1 : Int32) < 0 by decide), p_r1, obs]
        cases hmb : mmB τ g a2 k with
        | false =>
          rw [if_neg (show ¬ (false = true) by decide), if_pos rfl, (hr1 0).1, obs]
          exact ⟨-1, rfC σ2 1, rfM τ' 1, rfl, rfl, hIf 1⟩
        | true =>
          have hgd : ¬ τ.1 0 15 k < τ.1 0 0 0 := fun c => m1 ((mem_ell hk).mpr ⟨hmb, c⟩)
          rw [if_pos rfl, if_neg (show ¬ (1 : Int32) = 0 by decide), hgu', obs, decide_eq_false hgd, if_neg (show ¬ (false = true) by decide), if_neg (show ¬ (1 : Int32) = 0 by decide), (hr1 0).1, obs]
          exact ⟨-1, rfC σ2 1, rfM τ' 1, rfl, rfl, hIf 1⟩
  · rw [personAt_f hq hno, obs, oen, p_r1, obs]
    rcases take_both h a1 a2 with ⟨σ', τ', c1, c2, c3, c4⟩ | ⟨σ', τ', g, c1, c2, hT, hpl⟩
    · rw [c2, obs, if_pos (show ((0 : Int32), τ').1 = 0 from rfl), m_r1, obs]
      exact ⟨-1, rfC σ 1, rfM τ' 1, rfl, rfl, inv_rf (hI.fr (Fr.refl _) c4) 1⟩
    · have hpk : m_isPerson ((1 : Int32), τ').2 a4 = some 0 := isPerson_f (h.wk.fr hT.2.1).2.1 hno
      rw [c2, obs, if_neg (show ¬ ((1 : Int32), τ').1 = 0 by show ¬ (1 : Int32) = 0; decide), hpk, obs, if_pos rfl, m_r1, obs]
      exact ⟨-1, rfC σ 1, rfM τ' 1, rfl, rfl, inv_rf (hI.fr (Fr.refl _) hT.2.1) 1⟩
