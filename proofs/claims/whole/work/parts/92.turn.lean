/-! ===== turning: the class ===== -/
def RGG (σ : St) (el : List Nat) (f gr : Nat → Int32) (σ' : St) : Prop := RG σ el f σ' ∧ ∀ x k, el[x]? = some k → σ'.1 0 21 x = gr k
def tq (el : List Nat) (f gr c : Nat → Int32) (m k : Nat) (more : Int32) : Bool := decide (el.countP (fun j => ltK (fun k => f k + more * gr k) c j k) < m)
def tc1 (el : List Nat) (f gr c : Nat → Int32) (m k nw : Nat) (is : Bool) (b : Nat) : Bool := decide (nw + b ≤ 60) && (tq el f gr c m k (nI b) != is)
def tc2 (el : List Nat) (f gr c : Nat → Int32) (m k nw : Nat) (is : Bool) (b : Nat) : Bool := decide (b ≤ nw) && (tq el f gr c m k (-(nI b)) != is)
def tf (c1 c2 : Nat → Bool) : Nat → Nat → Int32
  | 0, _ => -9
  | n + 1, b => if c1 b then nI b else if c2 b then 1000 + nI b else tf c1 c2 n (b + 1)
section Turn
variable {σ τ : St} {U P Q T R L E : Nat}
theorem p_rplace_ok {el : List Nat} {f : Nat → Int32} {σ' : St} (hR : RG σ el f σ') (hlen : el.length ≤ 40) (k : Nat) : OK (p_Ranks_placeOf σ' k) (fun r => (k ∈ el ∧ ∃ x, r = nI x ∧ el[x]? = some k) ∨ (k ∉ el ∧ r = -1)) := by
  obtain ⟨hf, h35, hrow⟩ := hR
  unfold p_Ranks_placeOf
  refine OK.bi (OK.mono (R := fun e => (k ∈ el ∧ ∃ x, e = .inr (nI x) ∧ el[x]? = some k) ∨ (k ∉ el ∧ e = .inl ())) ?_ ?_)
  · refine OK.itr el.length (fun i s => s = nI i ∧ ∀ y, y < i → el[y]? ≠ some k) ⟨rfl, fun y hy => by omega⟩ (fun i s hi hs' => ?_) (fun s hs' => ?_) (FU_lt (by omega))
    · obtain ⟨e1, hI⟩ := hs'
      subst e1
      obtain ⟨j, hj⟩ : ∃ j, el[i]? = some j := ⟨el[i], List.getElem?_eq_getElem hi⟩
      rw [h35, if_pos (nI_lt hi (show el.length < 2 ^ 31 by omega)), ix_nI (show i < 40 by omega) (by decide), obs, lt1_eq, (hrow i j hj).1, nI_1]
      by_cases c : j = k
      · subst c
        rw [if_pos rfl]
        exact OK.so (Or.inl ⟨List.mem_of_getElem? hj, i, rfl, hj⟩)
      · rw [if_neg (fun e => c (Option.some.inj e))]
        refine OK.so ⟨rfl, fun y hy => ?_⟩
        by_cases e : y = i
        · subst e; rw [hj]; exact fun e => c (Option.some.inj e)
        · exact hI y (by omega)
    · obtain ⟨e1, hI⟩ := hs'
      subst e1
      rw [h35, if_neg (nI_nlt (Nat.le_refl _) (show el.length < 2 ^ 31 by omega))]
      refine OK.so (Or.inr ⟨fun hm => ?_, rfl⟩)
      obtain ⟨y, hy⟩ := List.mem_iff_getElem?.mp hm
      exact hI y (gq_lt hy) hy
  · rintro e (⟨h1, x, rfl, h2⟩ | ⟨h1, rfl⟩)
    · exact OK.so (Or.inl ⟨h1, x, rfl, h2⟩)
    · exact OK.so (Or.inr ⟨h1, rfl⟩)
theorem p_growth_ok (h : InvB σ τ U P Q T R L E) {el : List Nat} {f : Nat → Int32} {σ1 : St} (hR : RG σ el f σ1) (hlen : el.length ≤ 40) (hQ' : ∀ x k : Nat, el[x]? = some k → k < Q) {w : Nat} (hw : w < 4) : OK (p_Ranks_gatherGrowth σ1 (nI w)) (RGG σ el f (fun k => prt τ T R k (τ.1 0 0 0) w)) := by
  unfold p_Ranks_gatherGrowth
  refine OK.bi (OK.mono (R := RGG σ el f (fun k => prt τ T R k (τ.1 0 0 0) w)) ?_ (fun s hs' => OK.so hs'))
  refine OK.itr el.length (fun i s => s.1 = nI i ∧ RG σ el f s.2 ∧ ∀ x k, x < i → el[x]? = some k → s.2.1 0 21 x = prt τ T R k (τ.1 0 0 0) w) ⟨rfl, hR, fun x k hx => by omega⟩ (fun i s hi hs' => ?_) (fun s hs' => ?_) (FU_lt (by omega))
  · obtain ⟨i', σ2⟩ := s
    obtain ⟨e1, ⟨hf, h35, hrow⟩, hg⟩ := hs'
    simp only at e1 hf h35 hrow hg ⊢
    subst e1
    obtain ⟨j, hj⟩ : ∃ j, el[i]? = some j := ⟨el[i], List.getElem?_eq_getElem hi⟩
    have h2 := h.frC hf
    have hpt : p_Firm_partAsOf σ2 j (nI w) (σ2.1 0 1 0) = some (prt τ T R j (τ.1 0 0 0) w) := by
      rw [h2.1.1, p_part_eq h2.1 h2.2.2.1 h2.2.2.2.1 h2.2.2.2.2.1 h2.2.2.2.2.2.1 (hQ' i j hj) _ hw]
    rw [h35, if_pos (nI_lt hi (show el.length < 2 ^ 31 by omega)), ix_nI (show i < 40 by omega) (by decide), obs, lt1_eq, (hrow i j hj).1]
    simp only [oes, hpt, obs, lt1_eq, nI_1]
    refine OK.so ⟨rfl, ⟨hf.sx rfl, h35, hrow⟩, fun x k hx hxk => ?_⟩
    show (sx σ2 0 21 i (prt τ T R j (τ.1 0 0 0) w)).1 0 21 x = _
    rw [sx_1]
    by_cases e : x = i
    · subst e
      rw [hj] at hxk
      cases hxk
      rw [if_pos ⟨rfl, rfl, rfl⟩]
    · rw [if_neg (fun c => e c.2.2)]
      exact hg x k (by omega) hxk
  · obtain ⟨i', σ2⟩ := s
    obtain ⟨e1, hR2, hg⟩ := hs'
    simp only at e1 hR2 hg ⊢
    subst e1
    rw [hR2.2.1, if_neg (nI_nlt (Nat.le_refl _) (show el.length < 2 ^ 31 by omega))]
    exact OK.so ⟨hR2, fun x k hx => hg x k (gq_lt hx) hx⟩
theorem p_goesWith_ok (h : InvB σ τ U P Q T R L E) {el : List Nat} {f gr : Nat → Int32} {σ1 : St} (hR : RGG σ el f gr σ1) (hlen : el.length ≤ 40) (hQ' : ∀ x k : Nat, el[x]? = some k → k < Q) {m : Nat} (hm : m ≤ 40) (more : Int32) {x k : Nat} (hx : el[x]? = some k) : OK (p_Ranks_goesWith σ1 more (nI x) (nI m)) (fun r => RGG σ el f gr r.2 ∧ r.1 = if tq el f gr (τ.1 0 10) m k more then 1 else 0) := by
  unfold p_Ranks_goesWith
  refine OK.bi (OK.mono (R := fun σ2 => RGG σ el f gr σ2 ∧ ∀ y j, el[y]? = some j → σ2.1 0 20 y = f j + more * gr j) ?_ ?_)
  · refine OK.itr el.length (fun i s => s.1 = nI i ∧ RGG σ el f gr s.2 ∧ ∀ y j, y < i → el[y]? = some j → s.2.1 0 20 y = f j + more * gr j) ⟨rfl, hR, fun x k hx => by omega⟩ (fun i s hi hs' => ?_) (fun s hs' => ?_) (FU_lt (by omega))
    · obtain ⟨i', σ2⟩ := s
      obtain ⟨e1, ⟨⟨hf, h35, hrow⟩, hgr⟩, hg⟩ := hs'
      simp only at e1 hf h35 hrow hgr hg ⊢
      subst e1
      obtain ⟨j, hj⟩ : ∃ j, el[i]? = some j := ⟨el[i], List.getElem?_eq_getElem hi⟩
      rw [h35, if_pos (nI_lt hi (show el.length < 2 ^ 31 by omega)), ix_nI (show i < 40 by omega) (by decide)]
      simp only [obs, lt1_eq, nI_1, (hrow i j hj).2, hgr i j hj]
      refine OK.so ⟨rfl, ⟨⟨hf.sx rfl, h35, hrow⟩, hgr⟩, fun y k' hy hyk => ?_⟩
      show (sx σ2 0 20 i (f j + more * gr j)).1 0 20 y = _
      rw [sx_1]
      by_cases e : y = i
      · subst e
        rw [hj] at hyk
        cases hyk
        rw [if_pos ⟨rfl, rfl, rfl⟩]
      · rw [if_neg (fun c => e c.2.2)]
        exact hg y k' (by omega) hyk
    · obtain ⟨i', σ2⟩ := s
      obtain ⟨e1, hR2, hg⟩ := hs'
      simp only at e1 hR2 hg ⊢
      subst e1
      rw [hR2.1.2.1, if_neg (nI_nlt (Nat.le_refl _) (show el.length < 2 ^ 31 by omega))]
      exact OK.so ⟨hR2, fun x k hx => hg x k (gq_lt hx) hx⟩
  · rintro σ2 ⟨hR2, h20⟩
    rw [p_ahead_eq h hR2.1.1 hlen hQ' hR2.1.2.1 (fun x k hx => (hR2.1.2.2 x k hx).1) (f := fun k => f k + more * gr k) h20 hx, obs]
    have hcl : el.countP (fun j => ltK (fun k => f k + more * gr k) (τ.1 0 10) j k) ≤ el.length := List.countP_le_length
    unfold tq
    by_cases c : el.countP (fun j => ltK (fun k => f k + more * gr k) (τ.1 0 10) j k) < m
    · rw [if_pos (nI_lt c (by omega)), decide_eq_true c]
      exact OK.so ⟨hR2, rfl⟩
    · rw [if_neg (nI_nlt (by omega) (by omega)), decide_eq_false c]
      exact OK.so ⟨hR2, rfl⟩
theorem b01 {a b : Bool} : ((if a then (1 : Int32) else 0) = (if b then 1 else 0)) ↔ a = b := by
  cases a <;> cases b <;> decide
set_option maxHeartbeats 400000 in
theorem p_turned_ok (h : InvB σ τ U P Q T R L E) {el : List Nat} {f : Nat → Int32} {σ1 : St} (hR : RG σ el f σ1) (hlen : el.length ≤ 40) (hQ' : ∀ x k : Nat, el[x]? = some k → k < Q) {m : Nat} (hm : m ≤ 40) {x k w nw : Nat} (hx : el[x]? = some k) (hw : w < 4) (hnw : τ.1 0 17 w = nI nw) (hn20 : nw ≤ 20) : OK (p_Ranks_turnedBy σ1 (nI x) (nI m) (nI w)) (fun r => FrC σ r.2 ∧ r.1 = tf (tc1 el f (fun k => prt τ T R k (τ.1 0 0 0) w) (τ.1 0 10) m k nw (decide (el.countP (fun j => ltK f (τ.1 0 10) j k) < m))) (tc2 el f (fun k => prt τ T R k (τ.1 0 0 0) w) (τ.1 0 10) m k nw (decide (el.countP (fun j => ltK f (τ.1 0 10) j k) < m))) 60 1) := by
  have hxl := gq_lt hx
  obtain ⟨σ2, g1, g2⟩ := p_growth_ok h hR hlen hQ' hw
  generalize (fun k => prt τ T R k (τ.1 0 0 0) w) = gr at g2 ⊢
  have hcl : el.countP (fun j => ltK f (τ.1 0 10) j k) ≤ el.length := List.countP_le_length
  have h13 : σ2.1 0 13 w = nI nw := by rw [(g2.1.1 0 13 w rfl).1, (h.1.2.2.1 w hw).1, hnw]
  unfold p_Ranks_turnedBy
  rw [if_neg (nI_pos (by omega)), hR.2.1, if_pos (nI_lt hxl (by omega)), if_neg (nI_pos (by omega)), if_pos (show nI w < 4 from nI_lt (b := 4) hw (by decide)), g1, obs, ix_nI hw (by decide), obs, p_ahead_eq h g2.1.1 hlen hQ' g2.1.2.1 (fun x k hx => (g2.1.2.2 x k hx).1) (fun x k hx => (g2.1.2.2 x k hx).2) hx, obs]
  have e6 : (if nI (el.countP (fun j => ltK f (τ.1 0 10) j k)) < nI m then some (1 : Int32) else some 0) = some (if decide (el.countP (fun j => ltK f (τ.1 0 10) j k) < m) then 1 else 0) := by
    by_cases c : el.countP (fun j => ltK f (τ.1 0 10) j k) < m
    · rw [if_pos (nI_lt c (by omega)), decide_eq_true c]; rfl
    · rw [if_neg (nI_nlt (by omega) (by omega)), decide_eq_false c]; rfl
  rw [e6, obs]
  generalize decide (el.countP (fun j => ltK f (τ.1 0 10) j k) < m) = is
  generalize hc1 : tc1 el f gr (τ.1 0 10) m k nw is = c1
  generalize hc2 : tc2 el f gr (τ.1 0 10) m k nw is = c2
  refine OK.bi (OK.mono (R := fun e => (∃ σ3, e = .inl σ3 ∧ FrC σ σ3 ∧ tf c1 c2 60 1 = -9) ∨ (∃ r σ3, e = .inr (r, σ3) ∧ FrC σ σ3 ∧ r = tf c1 c2 60 1)) ?_ ?_)
  · refine OK.itr 60 (fun i s => s.1 = nI (i + 1) ∧ RGG σ el f gr s.2 ∧ tf c1 c2 60 1 = tf c1 c2 (60 - i) (i + 1)) ⟨rfl, g2, rfl⟩ (fun i s hi hs' => ?_) (fun s hs' => ?_) (FU_lt (by decide))
    · obtain ⟨b', σ3⟩ := s
      obtain ⟨e1, hR3, htf⟩ := hs'
      simp only at e1 hR3 htf ⊢
      subst e1
      obtain ⟨n, hn⟩ : ∃ n, 60 - i = n + 1 := ⟨60 - i - 1, by omega⟩
      rw [hn] at htf
      have htf' : tf c1 c2 60 1 = if c1 (i + 1) then nI (i + 1) else if c2 (i + 1) then 1000 + nI (i + 1) else tf c1 c2 n (i + 1 + 1) := htf
      have hn' : 60 - (i + 1) = n := by omega
      rw [if_neg (show ¬ (60 : Int32) < nI (i + 1) from nI_nlt (a := 60) (by omega) (by decide)), h13]
      -- the second try
      have second : ∀ σ4, RGG σ el f gr σ4 → c1 (i + 1) = false → OK (if nI nw - nI (i + 1) < 0 then some (Sum.inl (nI (i + 1) + 1, σ4)) else (p_Ranks_goesWith σ4 (-nI (i + 1)) (nI x) (nI m)).bind fun r17 => if r17.1 = (if is then (1 : Int32) else 0) then some (Sum.inl (nI (i + 1) + 1, r17.2)) else some (Sum.inr (Sum.inr (1000 + nI (i + 1), r17.2)))) (fun x => Sum.elim (fun s' : Int32 × St => s'.1 = nI (i + 1 + 1) ∧ RGG σ el f gr s'.2 ∧ tf c1 c2 60 1 = tf c1 c2 (60 - (i + 1)) (i + 1 + 1)) (fun e => (∃ σ3, e = .inl σ3 ∧ FrC σ σ3 ∧ tf c1 c2 60 1 = -9) ∨ (∃ r σ3, e = .inr (r, σ3) ∧ FrC σ σ3 ∧ r = tf c1 c2 60 1)) x) := by
        intro σ4 hR4 hf1
        rw [hf1] at htf'
        by_cases c : nw < i + 1
        · have hc2f : c2 (i + 1) = false := by rw [← hc2]; unfold tc2; rw [decide_eq_false (show ¬ i + 1 ≤ nw by omega)]; rfl
          rw [if_pos (pk_sneg (by omega) c), nI_1]
          refine OK.so ⟨rfl, hR4, ?_⟩
          rw [htf', hc2f, hn']
          rfl
        · rw [pk_sub (by omega), if_neg (nI_pos (by omega))]
          obtain ⟨⟨r, σ5⟩, k1, k2, k3⟩ := p_goesWith_ok h hR4 hlen hQ' hm (-nI (i + 1)) hx
          simp only at k2 k3
          rw [k1, obs]
          simp only [k3]
          by_cases d : tq el f gr (τ.1 0 10) m k (-nI (i + 1)) = is
          · have hc2f : c2 (i + 1) = false := by rw [← hc2]; unfold tc2; rw [d]; simp
            rw [if_pos (b01.mpr d), nI_1]
            refine OK.so ⟨rfl, k2, ?_⟩
            rw [htf', hc2f, hn']
            rfl
          · have hc2t : c2 (i + 1) = true := by rw [← hc2]; unfold tc2; rw [decide_eq_true (show i + 1 ≤ nw by omega)]; simpa using d
            rw [if_neg (fun e => d (b01.mp e))]
            refine OK.so (Or.inr ⟨_, _, rfl, k2.1.1, ?_⟩)
            rw [htf', hc2t]
            rfl
      by_cases c : nw + (i + 1) ≤ 60
      · rw [nI_add, if_neg (show ¬ (60 : Int32) < nI (nw + (i + 1)) from nI_nlt (a := 60) c (by decide))]
        obtain ⟨⟨r, σ5⟩, k1, k2, k3⟩ := p_goesWith_ok h hR3 hlen hQ' hm (nI (i + 1)) hx
        simp only at k2 k3
        rw [k1, obs]
        simp only [k3]
        by_cases d : tq el f gr (τ.1 0 10) m k (nI (i + 1)) = is
        · rw [if_pos (b01.mpr d)]
          exact second σ5 k2 (by rw [← hc1]; unfold tc1; rw [d]; simp)
        · have hc1t : c1 (i + 1) = true := by rw [← hc1]; unfold tc1; rw [decide_eq_true c]; simpa using d
          rw [if_neg (fun e => d (b01.mp e))]
          refine OK.so (Or.inr ⟨_, _, rfl, k2.1.1, ?_⟩)
          rw [htf', hc1t]
          rfl
      · rw [nI_add, if_pos (show (60 : Int32) < nI (nw + (i + 1)) from nI_lt (a := 60) (by omega) (by omega))]
        exact second σ3 hR3 (by rw [← hc1]; unfold tc1; rw [decide_eq_false c]; rfl)
    · obtain ⟨b', σ3⟩ := s
      obtain ⟨e1, hR3, htf⟩ := hs'
      simp only at e1 hR3 htf ⊢
      subst e1
      rw [if_pos (show (60 : Int32) < nI (60 + 1) by decide)]
      exact OK.so (Or.inl ⟨σ3, rfl, hR3.1.1, htf⟩)
  · rintro e (⟨σ3, rfl, h1, h2⟩ | ⟨r, σ3, rfl, h1, h2⟩)
    · exact OK.so ⟨h1, h2.symm⟩
    · exact OK.so ⟨h1, h2⟩
end Turn
