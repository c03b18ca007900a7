/-! ===== pools: the class ===== -/
def fl (σ : St) (a n : Nat) (v : Int32) : St := (fun d j k => if d = 0 ∧ j = a ∧ k < n then v else σ.1 d j k, σ.2)
theorem fl_1 (σ : St) (a n : Nat) (v : Int32) (d j k : Nat) : (fl σ a n v).1 d j k = if d = 0 ∧ j = a ∧ k < n then v else σ.1 d j k := rfl
theorem fl_2 (σ : St) (a n : Nat) (v : Int32) : (fl σ a n v).2 = σ.2 := rfl
theorem fill_eq (σ : St) (a n : Nat) (v : Int32) (hn : n < 10000) : j_Arrays_fill σ a n v = some (fl σ a n v) := by
  unfold j_Arrays_fill
  refine itr_bd n (fun i => (nI i, fl σ a i v)) (fl σ a n v) (FU_lt (by omega)) ?_ (fun i hi => ?_) ?_ rfl
  · refine Prod.ext rfl (Prod.ext ?_ rfl)
    funext d j k
    rw [fl_1, if_neg (fun c => by have := c.2.2; omega)]
  · simp only
    rw [if_pos (show nI i < Int32.ofNat n from nI_lt hi (by omega)), ix_nI hi (by omega), obs, lt1_eq, nI_1]
    congr 3
    refine Prod.ext ?_ rfl
    funext d j k
    rw [sx_1, fl_1, fl_1]
    by_cases c1 : d = 0 ∧ j = a
    · by_cases c2 : k < i
      · rw [if_neg (fun c => by omega), if_pos ⟨c1.1, c1.2, c2⟩, if_pos ⟨c1.1, c1.2, by omega⟩]
      · by_cases c3 : k = i
        · rw [if_pos ⟨c1.1, c1.2, c3⟩, if_pos ⟨c1.1, c1.2, by omega⟩]
        · rw [if_neg (fun c => c3 c.2.2), if_neg (fun c => c2 c.2.2), if_neg (fun c => by omega)]
    · rw [if_neg (fun c => c1 ⟨c.1, c.2.1⟩), if_neg (fun c => c1 ⟨c.1, c.2.1⟩), if_neg (fun c => c1 ⟨c.1, c.2.1⟩)]
  · simp only
    rw [if_neg (show ¬ nI n < Int32.ofNat n from nI_nlt (Nat.le_refl n) (by omega))]
theorem Fr.fl {scr : Nat → Nat → Nat → Bool} {a b : St} (h : Fr scr a b) {j n : Nat} {v : Int32} (hs : ∀ k, k < n → scr 0 j k = true) : Fr scr a (fl b j n v) := by
  intro d' j' k' hk
  rw [fl_1, fl_2, if_neg (fun e => by rw [e.1, e.2.1, hs k' e.2.2] at hk; cases hk)]
  exact h d' j' k' hk
theorem cnt_upd {p q : Nat → Bool} {j : Nat} : ∀ {n : Nat}, j < n → p j = false → q j = true → (∀ i, i ≠ j → q i = p i) → cnt q n = cnt p n + 1
  | 0, h, _, _, _ => by omega
  | n + 1, h, h1, h2, h3 => by
    show cnt q n + _ = cnt p n + _ + 1
    by_cases e : j = n
    · subst e
      rw [cnt_cong (p := q) (q := p) (fun i hi => h3 i (by omega)), h1, h2]
      rfl
    · rw [cnt_upd (n := n) (by omega) h1 h2 h3, h3 n (fun c => e c.symm)]
      omega
section Join
variable {σ τ : St} {U P Q T R L E : Nat}
theorem p_joinedAs_eq (hp : IPo σ τ U P Q) {p : Nat} (hpp : p < P) : p_Pools_joinedAs σ p = some (σ.1 0 15 p) := by
  have hP := hp.1
  unfold p_Pools_joinedAs
  rw [(hp.2.2.2 p hpp).2.1, if_neg (nI_pos (by omega)), if_pos (show nI p < 40 from nI_lt (b := 40) (by omega) (by decide)), ix_nI (show p < 40 by omega) (by decide)]
  rfl
theorem inB_frC {σ' : St} (hf : FrC σ σ') (u p : Nat) : inB σ' τ u p = inB σ τ u p := by
  unfold inB upB
  rw [(hf 0 9 _ rfl).1]
theorem p_free_eq (h : InvB σ τ U P Q T R L E) {σ' : St} (hf : FrC σ σ') {u p : Nat} (huu : u < U) (hpp : p < P) : p_Pools_isFree σ' p (nI u) = some (if decide (σ'.1 0 15 p < 0) && inB σ τ u p then 1 else 0) := by
  obtain ⟨hs, hu, hp, hq, ht, hr, hl, he⟩ := h.frC hf
  unfold p_Pools_isFree
  rw [p_joinedAs_eq hp hpp, p_openBelow_eq hu hp huu hpp, inB_frC hf]
  simp only [obs]
  by_cases c : σ'.1 0 15 p < 0
  · rw [if_pos c, decide_eq_true c]
    cases inB σ τ u p <;> rfl
  · rw [if_neg c, decide_eq_false c]
    rfl
theorem p_reach_eq (hp : IPo σ τ U P Q) {p s : Nat} (hpp : p < P) (hs : s < 40) : p_Pools_reach σ p (nI s) = some (nI (s + 1), sy (sx σ 0 15 p (σ.1 0 2 5)) 0 16 s (some p)) := by
  have hP := hp.1
  unfold p_Pools_reach
  rw [(hp.2.2.2 p hpp).2.1, if_neg (nI_pos (by omega)), if_pos (show nI p < 40 from nI_lt (b := 40) (by omega) (by decide)), if_neg (nI_pos (by omega)), if_pos (show nI s < 40 from nI_lt (b := 40) hs (by decide)), ix_nI (show p < 40 by omega) (by decide), ix_nI hs (by decide)]
  simp only [obs, lt1_eq, nI_1]
/-- what holds while a pool is spread -/
def SI (σ : St) (inb : Nat → Bool) (ℓ : Nat → Nat) (P i C : Nat) (mk : Nat → Bool) (s : Nat) (σ' : St) : Prop :=
  FrC σ σ' ∧ σ'.1 0 2 5 = nI C ∧ s = cnt mk P ∧ mk i = true ∧ (∀ q, q < P → mk q = true → inb q = true ∧ ℓ q = i) ∧
  (∀ q, q < P → σ'.1 0 15 q = if inb q && decide (ℓ q < i) then nI (cnt (rtb inb ℓ) (ℓ q)) else if mk q then nI C else -1) ∧
  (∀ x, x < s → ∃ q, q < P ∧ σ'.2 0 16 x = some q ∧ mk q = true) ∧ (∀ q, q < P → mk q = true → ∃ x, x < s ∧ σ'.2 0 16 x = some q)
theorem SI.reach {inb : Nat → Bool} {ℓ : Nat → Nat} {i C s : Nat} {mk : Nat → Bool} {σ' : St} (h : SI σ inb ℓ P i C mk s σ') {j : Nat} (hj : j < P) (hi : inb j = true) (hl : ℓ j = i) (hm : mk j = false) : SI σ inb ℓ P i C (fun q => mk q || decide (q = j)) (s + 1) (sy (sx σ' 0 15 j (σ'.1 0 2 5)) 0 16 s (some j)) := by
  obtain ⟨a1, a2, a3, a4, a5, a6, a7, a8⟩ := h
  have hne : ∀ q, q ≠ j → (mk q || decide (q = j)) = mk q := fun q hq => by simp [hq]
  refine ⟨(a1.sx rfl).sy rfl, a2, ?_, by simp [a4], fun q hq hmq => ?_, fun q hq => ?_, fun x hx => ?_, fun q hq hmq => ?_⟩
  · rw [cnt_upd (p := mk) (j := j) hj hm (by simp) (fun q hq => hne q hq), ← a3]
  · by_cases e : q = j
    · subst e; exact ⟨hi, hl⟩
    · have hmq' : (mk q || decide (q = j)) = true := hmq
      rw [hne q e] at hmq'
      exact a5 q hq hmq'
  · show (sx σ' 0 15 j (σ'.1 0 2 5)).1 0 15 q = _
    rw [sx_1]
    by_cases e : q = j
    · subst e
      have : ¬ (inb q && decide (ℓ q < i)) = true := by rw [hl]; simp
      rw [if_pos ⟨rfl, rfl, rfl⟩, if_neg this, a2]
      simp
    · rw [if_neg (fun c => e c.2.2), a6 q hq]
      simp only [hne q e]
  · rw [sy_2]
    by_cases e : x = s
    · subst e
      exact ⟨j, hj, by simp, by simp⟩
    · obtain ⟨q, q1, q2, q3⟩ := a7 x (by omega)
      exact ⟨q, q1, by rw [if_neg (fun c => e c.2.2)]; exact q2, by simp [q3]⟩
  · by_cases e : q = j
    · subst e
      exact ⟨s, by omega, by simp [sy_2]⟩
    · have hmq' : (mk q || decide (q = j)) = true := hmq
      rw [hne q e] at hmq'
      obtain ⟨x, x1, x2⟩ := a8 q hq hmq'
      refine ⟨x, by omega, ?_⟩
      rw [sy_2, if_neg (fun c => by have := c.2.2; omega)]
      exact x2
set_option maxHeartbeats 1000000 in
theorem p_spread_ok (h : InvB σ τ U P Q T R L E) {u : Nat} (huu : u < U) {ℓ : Nat → Nat} (hL : PLS (inB σ τ u) (lkB τ) P ℓ) {i C : Nat} (hi : i < P) (hr : rtb (inB σ τ u) ℓ i = true) {σ1 : St} (hf : FrC σ σ1) (hC : σ1.1 0 2 5 = nI C) (hCb : C < 2 ^ 31) (h15 : ∀ q, q < P → σ1.1 0 15 q = if inB σ τ u q && decide (ℓ q < i) then nI (cnt (rtb (inB σ τ u) ℓ) (ℓ q)) else -1) : OK (p_Pools_spread σ1 i (nI u)) (fun σ2 => FrC σ σ2 ∧ σ2.1 0 2 5 = nI C ∧ ∀ q, q < P → σ2.1 0 15 q = if inB σ τ u q && decide (ℓ q < i) then nI (cnt (rtb (inB σ τ u) ℓ) (ℓ q)) else if inB σ τ u q && decide (ℓ q = i) then nI C else -1) := by
  have hs := h.1
  have hp := h.2.2.1
  have hP := hp.1
  have hr' : inB σ τ u i = true ∧ ℓ i = i := by
    unfold rtb at hr
    rw [Bool.and_eq_true, decide_eq_true_iff] at hr
    exact hr
  unfold p_Pools_spread
  rw [show (0 : Int32) = nI 0 from rfl, p_reach_eq (h.frC hf).2.2.1 hi (by decide), obs]
  refine OK.bi (OK.mono (R := fun σ2 => FrC σ σ2 ∧ σ2.1 0 2 5 = nI C ∧ ∀ q, q < P → σ2.1 0 15 q = if inB σ τ u q && decide (ℓ q < i) then nI (cnt (rtb (inB σ τ u) ℓ) (ℓ q)) else if inB σ τ u q && decide (ℓ q = i) then nI C else -1) ?_ (fun s hs' => OK.so hs'))
  -- when all that were reached have been gone through
  have done : ∀ (mk : Nat → Bool) (s : Nat) (σ' : St), SI σ (inB σ τ u) ℓ P i C mk s σ' → (∀ x, x < s → ∀ q, σ'.2 0 16 x = some q → ∀ j, j < P → inB σ τ u j = true → lkB τ q j = true → mk j = true) → FrC σ σ' ∧ σ'.1 0 2 5 = nI C ∧ ∀ q, q < P → σ'.1 0 15 q = if inB σ τ u q && decide (ℓ q < i) then nI (cnt (rtb (inB σ τ u) ℓ) (ℓ q)) else if inB σ τ u q && decide (ℓ q = i) then nI C else -1 := by
    rintro mk s σ' ⟨a1, a2, a3, a4, a5, a6, a7, a8⟩ hd
    refine ⟨a1, a2, fun q hq => ?_⟩
    rw [a6 q hq]
    have hmk : mk q = (inB σ τ u q && decide (ℓ q = i)) := by
      rw [Bool.eq_iff_iff, Bool.and_eq_true, decide_eq_true_iff]
      refine ⟨a5 q hq, fun c => ?_⟩
      refine hL.2.2 (fun x => mk x = true) (fun a b ha hb hS _ hib hl => ?_) q hq c.1 (by rw [c.2]; exact a4)
      obtain ⟨x, x1, x2⟩ := a8 a ha hS
      exact hd x x1 a x2 b hb hib hl
    rw [hmk]
  refine OK.itr 40 (fun t s => ∃ (mk : Nat → Bool) (n : Nat), s.1 = nI n ∧ s.2.1 = nI t ∧ SI σ (inB σ τ u) ℓ P i C mk n s.2.2 ∧ ∀ x, x < t → x < n ∧ ∀ q, s.2.2.2 0 16 x = some q → ∀ j, j < P → inB σ τ u j = true → lkB τ q j = true → mk j = true) ⟨fun q => decide (q = i), 1, rfl, rfl, ⟨(hf.sx rfl).sy rfl, hC, ?_, by simp, fun q hq c => ?_, fun q hq => ?_, fun x hx => ⟨i, hi, ?_, by simp⟩, fun q hq c => ⟨0, by decide, ?_⟩⟩, fun x hx => by omega⟩ (fun t s ht hs' => ?_) (fun s hs' => ?_) (FU_lt (by decide))
  · rw [cnt_upd (p := fun _ => false) (j := i) hi rfl (by simp) (fun q hq => by simp [hq]), cnt_no (fun _ _ => rfl)]
  · have : q = i := of_decide_eq_true c
    subst this; exact hr'
  · show (sx σ1 0 15 i (σ1.1 0 2 5)).1 0 15 q = _
    rw [sx_1]
    by_cases e : q = i
    · subst e
      have : ¬ (inB σ τ u q && decide (ℓ q < q)) = true := by rw [hr'.2]; simp
      rw [if_pos ⟨rfl, rfl, rfl⟩, if_neg this, hC]
      simp
    · rw [if_neg (fun c => e c.2.2), h15 q hq]
      simp only [e, decide_false, Bool.false_eq_true, if_false]
  · have : x = 0 := by omega
    subst this
    simp [sy_2]
  · have : q = i := of_decide_eq_true c
    subst this
    simp [sy_2]
  · obtain ⟨n', t', σ'⟩ := s
    obtain ⟨mk, n, e0, e1, hSI, hdone⟩ := hs'
    simp only at e0 e1 hSI hdone ⊢
    subst e0
    subst e1
    obtain ⟨a1, a2, a3, a4, a5, a6, a7, a8⟩ := id hSI
    have hnP : n ≤ P := by rw [a3]; exact cnt_le
    by_cases htn : t < n
    · rw [if_pos (nI_lt htn (by omega)), if_pos (show nI t < 40 from nI_lt (b := 40) ht (by decide)), ix_nI ht (by decide)]
      obtain ⟨q0, q1, q2, q3⟩ := a7 t htn
      simp only [obs, lt1_eq, q2]
      refine OK.bi (OK.mono (R := fun s => ∃ (mk : Nat → Bool) (n : Nat), s.1 = nI n ∧ SI σ (inB σ τ u) ℓ P i C mk n s.2 ∧ ∀ x, x < t + 1 → x < n ∧ ∀ q, s.2.2 0 16 x = some q → ∀ j, j < P → inB σ τ u j = true → lkB τ q j = true → mk j = true) ?_ (fun s hs' => ?_))
      · refine OK.itr P (fun j s => ∃ (mk : Nat → Bool) (n : Nat), s.1 = nI n ∧ s.2.1 = nI j ∧ SI σ (inB σ τ u) ℓ P i C mk n s.2.2 ∧ t < n ∧ s.2.2.2 0 16 t = some q0 ∧ mk q0 = true ∧ (∀ x, x < t → ∀ q, s.2.2.2 0 16 x = some q → ∀ j, j < P → inB σ τ u j = true → lkB τ q j = true → mk j = true) ∧ ∀ j', j' < j → inB σ τ u j' = true → lkB τ q0 j' = true → mk j' = true) ⟨mk, n, rfl, rfl, hSI, htn, q2, q3, fun x hx => (hdone x hx).2, fun j' hj' => by omega⟩ (fun j s hj hs' => ?_) (fun s hs' => ?_) (FU_lt (by omega))
        · obtain ⟨n3, j', σ3⟩ := s
          obtain ⟨mk3, n4, e3, e4, hSI3, htn3, hq3, hm3, hd3, hj3⟩ := hs'
          simp only at e3 e4 hSI3 htn3 hq3 hm3 hd3 hj3 ⊢
          subst e3
          subst e4
          obtain ⟨b1, b2, b3, b4, b5, b6, b7, b8⟩ := id hSI3
          have h3 := h.frC b1
          have hp3 := h3.2.2.1
          have hn3P : n4 ≤ P := by rw [b3]; exact cnt_le
          rw [(b1 0 1 2 rfl).1, hp.2.2.1, if_pos (nI_lt hj (show P < 2 ^ 31 by omega)), postAt_t hp3 hj]
          simp only [obs, oes, p_free_eq h b1 huu hj, p_like_eq h3.1 hp3 q1 hj, nI_1]
          have keep : (inB σ τ u j = true → lkB τ q0 j = true → mk3 j = true) → OK (some (Sum.inl (β := Int32 × St) (nI n4, nI (j + 1), σ3))) (fun x => Sum.elim (fun s : Int32 × Int32 × St => ∃ (mk : Nat → Bool) (n : Nat), s.1 = nI n ∧ s.2.1 = nI (j + 1) ∧ SI σ (inB σ τ u) ℓ P i C mk n s.2.2 ∧ t < n ∧ s.2.2.2 0 16 t = some q0 ∧ mk q0 = true ∧ (∀ x, x < t → ∀ q, s.2.2.2 0 16 x = some q → ∀ j, j < P → inB σ τ u j = true → lkB τ q j = true → mk j = true) ∧ ∀ j', j' < j + 1 → inB σ τ u j' = true → lkB τ q0 j' = true → mk j' = true) (fun s => ∃ (mk : Nat → Bool) (n : Nat), s.1 = nI n ∧ SI σ (inB σ τ u) ℓ P i C mk n s.2 ∧ ∀ x, x < t + 1 → x < n ∧ ∀ q, s.2.2 0 16 x = some q → ∀ j, j < P → inB σ τ u j = true → lkB τ q j = true → mk j = true) x) := by
            intro hk
            refine OK.so ⟨mk3, n4, rfl, rfl, hSI3, htn3, hq3, hm3, hd3, fun j' hj' c1 c2 => ?_⟩
            by_cases e : j' = j
            · subst e; exact hk c1 c2
            · exact hj3 j' (by omega) c1 c2
          cases hfr : (decide (σ3.1 0 15 j < 0) && inB σ τ u j) with
          | false =>
            simp only [Bool.false_eq_true, if_false, if_true, obs]
            refine keep (fun c1 c2 => ?_)
            rw [c1, Bool.and_true, decide_eq_false_iff_not, b6 j hj] at hfr
            have hℓ : ℓ j = i := by rw [← hL.2.1 q0 j q1 hj (b5 q0 q1 hm3).1 c1 c2]; exact (b5 q0 q1 hm3).2
            have : ¬ (inB σ τ u j && decide (ℓ j < i)) = true := by rw [hℓ]; simp
            rw [if_neg this] at hfr
            cases hc : mk3 j with
            | true => rfl
            | false => rw [hc] at hfr; exact absurd (show (-1 : Int32) < 0 by decide) hfr
          | true =>
            have hfr' := hfr
            rw [Bool.and_eq_true, decide_eq_true_iff] at hfr'
            simp only [if_true, if_neg (show ¬ (1 : Int32) = 0 by decide)]
            cases hc : lkB τ q0 j with
            | false =>
              simp only [Bool.false_eq_true, if_false, if_true, obs]
              exact keep (fun c1 c2 => by rw [hc] at c2; cases c2)
            | true =>
              simp only [if_true, if_neg (show ¬ (1 : Int32) = 0 by decide)]
              have hℓ : ℓ j = i := by rw [← hL.2.1 q0 j q1 hj (b5 q0 q1 hm3).1 hfr'.2 hc]; exact (b5 q0 q1 hm3).2
              have hmj : mk3 j = false := by
                cases hm : mk3 j with
                | false => rfl
                | true =>
                  have h1 := hfr'.1
                  have : ¬ (inB σ τ u j && decide (ℓ j < i)) = true := by rw [hℓ]; simp
                  rw [b6 j hj, if_neg this, hm, if_pos rfl] at h1
                  exact absurd h1 (nI_pos hCb)
              have hn40 : n4 < 40 := by
                have := (hSI3.reach hj hfr'.2 hℓ hmj).2.2.1
                have h2 : cnt (fun q => mk3 q || decide (q = j)) P ≤ P := cnt_le
                omega
              rw [p_reach_eq hp3 hj hn40]
              simp only [obs]
              refine OK.so ⟨_, n4 + 1, rfl, rfl, hSI3.reach hj hfr'.2 hℓ hmj, by omega, ?_, by simp [hm3], fun x hx q hq j1 hj1 c1 c2 => ?_, fun j' hj' c1 c2 => ?_⟩
              · show (sy _ 0 16 n4 (some j)).2 0 16 t = some q0
                rw [sy_2, if_neg (fun c => by have := c.2.2; omega)]
                exact hq3
              · have hq' : (sy (sx σ3 0 15 j (σ3.1 0 2 5)) 0 16 n4 (some j)).2 0 16 x = some q := hq
                rw [sy_2, if_neg (fun c => by have := c.2.2; omega)] at hq'
                have := hd3 x hx q hq' j1 hj1 c1 c2
                simp [this]
              · by_cases e : j' = j
                · subst e; simp
                · have := hj3 j' (by omega) c1 c2
                  simp [this]
        · obtain ⟨n3, j', σ3⟩ := s
          obtain ⟨mk3, n4, e3, e4, hSI3, htn3, hq3, hm3, hd3, hj3⟩ := hs'
          simp only at e3 e4 hSI3 htn3 hq3 hm3 hd3 hj3 ⊢
          subst e4
          rw [(hSI3.1 0 1 2 rfl).1, hp.2.2.1, if_neg (nI_nlt (Nat.le_refl P) (show P < 2 ^ 31 by omega))]
          refine OK.so ⟨mk3, n4, e3, hSI3, fun x hx => ⟨by omega, fun q hq j hj c1 c2 => ?_⟩⟩
          by_cases e : x = t
          · subst e
            rw [hq3] at hq
            cases hq
            exact hj3 j hj c1 c2
          · exact hd3 x (by omega) q hq j hj c1 c2
      · obtain ⟨mk3, n4, e3, hSI3, hd3⟩ := hs'
        rw [nI_1]
        exact OK.so ⟨mk3, n4, e3, rfl, hSI3, hd3⟩
    · rw [if_neg (nI_nlt (by omega) (by omega))]
      exact OK.so (done mk n σ' hSI (fun x hx => (hdone x (by omega)).2))
  · obtain ⟨n', t', σ'⟩ := s
    obtain ⟨mk, n, e0, e1, hSI, hdone⟩ := hs'
    simp only at e0 e1 hSI hdone ⊢
    subst e0
    subst e1
    have hnP : n ≤ P := by rw [hSI.2.2.1]; exact cnt_le
    rw [if_neg (nI_nlt (by omega) (by omega))]
    exact OK.so (done mk n σ' hSI (fun x hx => (hdone x (by omega)).2))
end Join
