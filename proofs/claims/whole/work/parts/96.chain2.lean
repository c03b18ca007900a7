/-! ===== chains: the reference's search, and the whole chain ===== -/
section Chain2
variable {σ τ : St} {U P Q T R L E : Nat}
set_option maxHeartbeats 800000 in
theorem m_takes_eq (h : WK σ τ U P Q T R) {f : Nat → Int32} (hf : ∀ k, mk τ T R k (τ.1 0 0 0) = f k) {i : Nat} (hi : i ≤ 40) (h51 : τ.1 0 0 51 = nI i) {k gone : Nat} (hk : k < Q) (hg : gone < Q) (hh : ¬ τ.1 0 12 k < 0) (hgm : ¬ f gone < f k) (hmv : ∀ j, j < i → ∃ a b, a < Q ∧ b < Q ∧ τ.1 0 33 j = nI a ∧ τ.1 0 35 j = nI b ∧ ¬ f a < f k ∧ ¬ f b < f k) : m_takes τ (nI k) (nI gone) = some (oI (bmp τ f k Q)) := by
  obtain ⟨hp, hq, hd0, e25, e30, hT, hR⟩ := h
  have hP := hp.1
  have hQ := hq.1
  obtain ⟨k1, k2, k3, k4⟩ := hold_nI hp hq hk hh
  obtain ⟨-, gk, gk0, gk1, gk2⟩ := grade_rg hp k1
  unfold m_takes
  rw [ix_nI (show k < 40 by omega) (by decide), obs, k3, ix_nI (show hN τ k < 40 by omega) (by decide), obs]
  refine itr_bd Q (fun i => (oI (bmp τ f k i), nI i)) (oI (bmp τ f k Q)) (FU_lt (by omega)) rfl (fun o ho => ?_) ?_ rfl
  · have hmko : m_markOf τ (nI o) (τ.1 0 0 0) = some (f o) := by rw [m_mark_eq hd0 hp hq hT hR e25 e30 ho, hf]
    have hmkk : m_markOf τ (nI k) (τ.1 0 0 0) = some (f k) := by rw [m_mark_eq hd0 hp hq hT hR e25 e30 hk, hf]
    rw [show τ.1 0 0 11 = nI Q from hq.2.1]
    simp only [if_pos (nI_lt ho (show Q < 2 ^ 31 by omega)), nI_1, (isHere_eq hq ho).2, guard_eq hq ho, m_moved_eq hi h51 o, hmko, hmkk, ix_nI (show o < 40 by omega) (show 40 < 2 ^ 31 by decide), ix_nI (show k < 40 by omega) (show 40 < 2 ^ 31 by decide), obs, bI_eq0, k3, ix_nI (show hN τ k < 40 by omega) (show 40 < 2 ^ 31 by decide)]
    have e : bmp τ f k (o + 1) = if mbB τ f k o then Option.elim (bmp τ f k o) (some o) (fun b => if btB τ f o b then some o else some b) else bmp τ f k o := rfl
    rw [e]
    cases hm : mbB τ f k o with
    | true =>
      obtain ⟨m1, m2, m3⟩ := mbB_lt hm
      obtain ⟨o1, o2, o3, o4⟩ := hold_nI hp hq ho m2
      have hmf : mbF τ f k o = true := by
        unfold mbB at hm
        rw [Bool.and_eq_true, Bool.and_eq_true] at hm
        exact hm.2.2
      obtain ⟨n1, ⟨n2, n3⟩, n4, n5⟩ := of_decide_eq_true hmf
      have hok : o ≠ k := fun e => by rw [e, i_lt] at m1; omega
      have hog : o ≠ gone := fun e => by rw [e] at m1; exact hgm m1
      have hmvd : anyB (fun j => decide (τ.1 0 33 j = nI o ∨ τ.1 0 35 j = nI o)) i = false := by
        cases hc : anyB (fun j => decide (τ.1 0 33 j = nI o ∨ τ.1 0 35 j = nI o)) i with
        | false => rfl
        | true =>
          rw [anyB_iff] at hc
          obtain ⟨j, h1, h2⟩ := hc
          obtain ⟨a, b, a1, b1, a2, b2, a3, b3⟩ := hmv j h1
          rcases of_decide_eq_true h2 with c | c
          · rw [a2] at c; rw [nI_inj (by omega) (by omega) c] at a3; exact absurd m1 a3
          · rw [b2] at c; rw [nI_inj (by omega) (by omega) c] at b3; exact absurd m1 b3
      obtain ⟨-, go, go0, go1, go2⟩ := grade_rg hp o1
      have hin : (0 : Int32) ≤ τ.1 0 5 (hN τ k) - τ.1 0 5 (hN τ o) ∧ τ.1 0 5 (hN τ k) - τ.1 0 5 (hN τ o) ≤ 2 := by
        rw [gk2, go2, nI_ltI (by omega) (by omega)] at n2
        rw [gk2, go2, i_lt, nI_toInt (by omega)] at n3
        have e2 : (nI gk - 2).toInt = (gk : Int) - 2 := pk_sub_toInt (b := 2) (by omega) (by decide)
        rw [e2] at n3
        rw [gk2, go2, i_le, i_le, pk_sub_toInt (by omega) (by omega), show (0 : Int32).toInt = 0 from rfl, show (2 : Int32).toInt = 2 from rfl]
        omega
      have q1 : ¬ nI o = nI k := fun e => hok (nI_inj (by omega) (by omega) e)
      have q2 : ¬ nI o = nI gone := fun e => hog (nI_inj (by omega) (by omega) e)
      have hn12 : ¬ nI (hN τ o) < 0 := nI_pos (by omega)
      simp only [if_neg q1, if_neg q2, o4, not_true, if_false, o3, if_neg hn12, decide_eq_true m3, if_true, hmvd, Bool.false_eq_true, obs, if_neg (show ¬ (1 : Int32) = 0 by decide), ix_nI (show hN τ o < 40 by omega) (show 40 < 2 ^ 31 by decide), if_pos n1, m_in_eq, bI_t hin, if_pos n4, m_skill_eq hp hq hk o1, if_neg n5]
      cases hc : bmp τ f k o with
      | none => rfl
      | some b =>
        obtain ⟨d1, d2⟩ := bmp_some hc
        obtain ⟨z1, z2, z3⟩ := mbB_lt d2
        obtain ⟨b1, b2, b3, b4⟩ := hold_nI hp hq (show b < Q by omega) z2
        have hmkb : m_markOf τ (nI b) (τ.1 0 0 0) = some (f b) := by rw [m_mark_eq hd0 hp hq hT hR e25 e30 (show b < Q by omega), hf]
        simp only [oI_some, if_neg (nI_pos (show b < 2 ^ 31 by omega)), ix_nI (show b < 40 by omega) (show 40 < 2 ^ 31 by decide), obs, b3, ix_nI (show hN τ b < 40 by omega) (show 40 < 2 ^ 31 by decide), hmkb, oes]
        unfold btB
        by_cases c0 : τ.1 0 5 (hN τ b) < τ.1 0 5 (hN τ o)
        · rw [if_pos c0, decide_eq_true (Or.inl c0)]
          rfl
        · rw [if_neg c0]
          by_cases c1 : τ.1 0 5 (hN τ o) = τ.1 0 5 (hN τ b)
          · rw [if_pos c1]
            by_cases c2 : f o < f b
            · rw [if_pos c2, decide_eq_true (Or.inr ⟨c1, c2⟩)]
              rfl
            · rw [if_neg c2, decide_eq_false (fun c => c.elim c0 (fun d => c2 d.2))]
              rfl
          · rw [if_neg c1, decide_eq_false (fun c => c.elim c0 (fun d => c1 d.1))]
            rfl
    | false =>
      rw [if_neg (show ¬ (false = true) by decide)]
      by_cases q1 : nI o = nI k
      · simp only [if_pos q1, obs, if_true]
      · by_cases q2 : nI o = nI gone
        · simp only [if_neg q1, if_pos q2, obs, if_true]
        · simp only [if_neg q1, if_neg q2]
          by_cases hhe : τ.1 0 14 o < 0
          · simp only [hhe, not_true, if_false]
            by_cases ho12 : τ.1 0 12 o < 0
            · simp only [if_pos ho12, obs, if_true]
            · obtain ⟨o1, o2, o3, o4⟩ := hold_nI hp hq ho ho12
              simp only [if_neg ho12]
              by_cases hgd : τ.1 0 15 o < τ.1 0 0 0
              · simp only [decide_eq_true hgd, if_true]
                cases anyB (fun j => decide (τ.1 0 33 j = nI o ∨ τ.1 0 35 j = nI o)) i with
                | true => simp only [if_true, if_neg (show ¬ (1 : Int32) = 0 by decide), obs]
                | false =>
                  have hmf : mbF τ f k o = false := by
                    unfold mbB at hm
                    rw [decide_eq_true ho12, decide_eq_true hgd] at hm
                    exact hm
                  have hmf' := of_decide_eq_false hmf
                  obtain ⟨-, go, go0, go1, go2⟩ := grade_rg hp o1
                  simp only [Bool.false_eq_true, if_false, if_true, obs, if_neg (show ¬ (1 : Int32) = 0 by decide), o3, ix_nI (show hN τ o < 40 by omega) (show 40 < 2 ^ 31 by decide)]
                  by_cases n1 : τ.1 0 4 (hN τ o) = τ.1 0 4 (hN τ k)
                  · rw [if_pos n1, m_in_eq, obs]
                    by_cases hin : (0 : Int32) ≤ τ.1 0 5 (hN τ k) - τ.1 0 5 (hN τ o) ∧ τ.1 0 5 (hN τ k) - τ.1 0 5 (hN τ o) ≤ 2
                    · rw [bI_t hin, if_neg (show ¬ (1 : Int32) = 0 by decide)]
                      have hgr : ¬ τ.1 0 5 (hN τ k) < τ.1 0 5 (hN τ o) ∧ ¬ τ.1 0 5 (hN τ o) < τ.1 0 5 (hN τ k) - 2 := by
                        rw [gk2, go2, i_le, i_le, pk_sub_toInt (by omega) (by omega), show (0 : Int32).toInt = 0 from rfl, show (2 : Int32).toInt = 2 from rfl] at hin
                        have e2 : (nI gk - 2).toInt = (gk : Int) - 2 := pk_sub_toInt (b := 2) (by omega) (by decide)
                        rw [gk2, go2, nI_ltI (by omega) (by omega), i_lt, e2, nI_toInt (by omega)]
                        omega
                      by_cases n4 : f o < f k
                      · rw [if_pos n4, m_skill_eq hp hq hk o1, obs]
                        by_cases n5 : skl τ k (hN τ o) < 50
                        · rw [if_pos n5, obs, if_pos rfl, obs]
                        · exact absurd ⟨n1, hgr, n4, n5⟩ hmf'
                      · rw [if_neg n4, obs, if_pos rfl, obs]
                    · rw [bI_f hin, if_pos rfl, obs, if_pos rfl, obs]
                  · rw [if_neg n1, obs, if_pos rfl, obs]
              · simp only [decide_eq_false hgd, Bool.false_eq_true, if_false, if_neg (show ¬ (1 : Int32) = 0 by decide), obs, if_true]
          · simp only [hhe, not_false_iff, if_true, obs]
  · simp only [hq.2.1, if_neg (nI_nlt (Nat.le_refl Q) (show Q < 2 ^ 31 by omega))]
/-- the chain -/
def cs (τ : St) (f : Nat → Int32) (Q k : Nat) : Nat → Nat
  | 0 => k
  | i + 1 => Option.elim (bmp τ f (cs τ f Q k i) Q) (cs τ f Q k i) id
theorem cnt_lt2 {p q : Nat → Bool} {j : Nat} : ∀ {n : Nat}, j < n → (∀ i, i < n → p i = true → q i = true) → q j = true → p j = false → cnt p n < cnt q n
  | 0, h, _, _, _ => by omega
  | n + 1, h, h1, h2, h3 => by
    have hle : ∀ m, m ≤ n + 1 → cnt p m ≤ cnt q m := by
      intro m
      induction m with
      | zero => intro _; exact Nat.le_refl _
      | succ m ih =>
        intro hm
        have := ih (by omega)
        show cnt p m + _ ≤ cnt q m + _
        cases hp : p m with
        | false => simp; omega
        | true => rw [h1 m (by omega) hp]; simp; exact this
    show cnt p n + _ < cnt q n + _
    by_cases e : j = n
    · subst e
      rw [h2, h3]
      have := hle j (by omega)
      simp; omega
    · have := cnt_lt2 (n := n) (by omega) (fun i hi => h1 i (by omega)) h2 h3
      cases hp : p n with
      | false => simp; omega
      | true => rw [h1 n (by omega) hp]; simp; exact this
/-- it comes to an end -/
theorem cs_end {f : Nat → Int32} (hQ : Q ≤ 40) {k : Nat} (hk : k < Q) (hh : ¬ τ.1 0 12 k < 0) : ∃ M, M ≤ 39 ∧ (∀ i, i < M → bmp τ f (cs τ f Q k i) Q = some (cs τ f Q k (i + 1))) ∧ bmp τ f (cs τ f Q k M) Q = none ∧ (∀ i, i ≤ M → cs τ f Q k i < Q ∧ ¬ τ.1 0 12 (cs τ f Q k i) < 0) ∧ ∀ i j, i ≤ j → j ≤ M → (f (cs τ f Q k j)).toInt ≤ (f (cs τ f Q k i)).toInt := by
  have step : ∀ i, bmp τ f (cs τ f Q k i) Q ≠ none → bmp τ f (cs τ f Q k i) Q = some (cs τ f Q k (i + 1)) := by
    intro i hne
    cases hc : bmp τ f (cs τ f Q k i) Q with
    | none => exact absurd hc hne
    | some b =>
      show some b = some (Option.elim (bmp τ f (cs τ f Q k i) Q) (cs τ f Q k i) id)
      rw [hc]
      rfl
  have good : ∀ i, (∀ j, j < i → bmp τ f (cs τ f Q k j) Q ≠ none) → cs τ f Q k i < Q ∧ ¬ τ.1 0 12 (cs τ f Q k i) < 0 := by
    intro i hi
    cases i with
    | zero => exact ⟨hk, hh⟩
    | succ i =>
      obtain ⟨h1, h2⟩ := bmp_some (step i (hi i (by omega)))
      exact ⟨h1, (mbB_lt h2).2.1⟩
  have dec : ∀ i, (∀ j, j < i → bmp τ f (cs τ f Q k j) Q ≠ none) → cnt (fun o => decide (f o < f (cs τ f Q k i))) Q + i < Q := by
    intro i
    induction i with
    | zero =>
      intro _
      have h1 : cnt (fun o => decide (f o < f (cs τ f Q k 0))) Q < cnt (fun _ => true) Q := cnt_lt2 hk (fun _ _ _ => rfl) rfl (by
        show decide (f k < f k) = false
        rw [decide_eq_false_iff_not, i_lt]; omega)
      have h2 : cnt (fun _ => true) Q ≤ Q := cnt_le
      omega
    | succ i ih =>
      intro hi
      have h0 := ih (fun j hj => hi j (by omega))
      obtain ⟨h1, h2⟩ := bmp_some (step i (hi i (by omega)))
      have h3 := (mbB_lt h2).1
      have : cnt (fun o => decide (f o < f (cs τ f Q k (i + 1)))) Q < cnt (fun o => decide (f o < f (cs τ f Q k i))) Q := cnt_lt2 h1 (fun o _ ho => by
        have ho' := of_decide_eq_true ho
        refine decide_eq_true ?_
        rw [i_lt] at ho' h3 ⊢
        omega) (decide_eq_true h3) (by rw [decide_eq_false_iff_not, i_lt]; omega)
      omega
  have hex : ∃ i, bmp τ f (cs τ f Q k i) Q = none := by
    refine Classical.byContradiction (fun hc => ?_)
    have := dec 41 (fun j _ h => hc ⟨j, h⟩)
    omega
  obtain ⟨M, hM, hmin⟩ := pk_least _ hex
  have hd := dec M (fun j hj => hmin j hj)
  refine ⟨M, by omega, fun i hi => step i (hmin i hi), hM, fun i hi => good i (fun j hj => hmin j (by omega)), fun i j hij hj => ?_⟩
  induction j with
  | zero => have : i = 0 := by omega
            subst this; exact Int.le_refl _
  | succ j ih =>
    by_cases e : i = j + 1
    · subst e; exact Int.le_refl _
    · have h1 := ih (by omega) (by omega)
      have h2 := (mbB_lt (bmp_some (step j (hmin j (by omega)))).2).1
      rw [i_lt] at h2
      omega
end Chain2
