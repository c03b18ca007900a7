/-! ===== who holds which post ===== -/
def hdC (σ : St) (k : Nat) (np : Option Nat) : St :=
  match np with
  | none => sy (Option.elim (σ.2 2 k 4) σ fun q => sy σ 1 q 7 none) 2 k 4 none
  | some p => sy (sy (sy (Option.elim (σ.2 2 k 4) σ fun q => sy σ 1 q 7 none) 2 k 4 (some p)) 1 p 7 (some k)) 2 k 5 (some p)
theorem p_hold_eq (σ : St) (k : Nat) (np : Option Nat) : p_Person_hold σ k np = some (hdC σ k np) := by
  unfold p_Person_hold hdC
  cases σ.2 2 k 4 <;> cases np <;> rfl
theorem hdC_1 (σ : St) (k : Nat) (np : Option Nat) : (hdC σ k np).1 = σ.1 := by
  unfold hdC
  cases σ.2 2 k 4 <;> cases np <;> rfl
theorem hdC_o (σ : St) (k : Nat) (np : Option Nat) {d j : Nat} (h1 : d ≠ 1) (h2 : ¬ (d = 2 ∧ j = k)) : (hdC σ k np).2 d j = σ.2 d j := by
  funext i
  unfold hdC
  have n1 : ∀ x y, ¬ (d = 1 ∧ j = x ∧ i = y) := fun x y c => h1 c.1
  have n2 : ∀ y, ¬ (d = 2 ∧ j = k ∧ i = y) := fun y c => h2 ⟨c.1, c.2.1⟩
  cases σ.2 2 k 4 <;> cases np <;> simp only [sy_2, n1, n2, if_false, Option.elim]
theorem hdC_4 (σ : St) (k : Nat) (np : Option Nat) : (hdC σ k np).2 2 k 4 = np := by
  unfold hdC
  cases σ.2 2 k 4 <;> cases np <;> simp [sy_2]
theorem hdC_5 (σ : St) (k : Nat) (np : Option Nat) : (hdC σ k np).2 2 k 5 = if np = none then σ.2 2 k 5 else np := by
  unfold hdC
  cases σ.2 2 k 4 <;> cases np <;> simp [sy_2]
theorem hdC_i (σ : St) (k : Nat) (np : Option Nat) {i : Nat} (h4 : i ≠ 4) (h5 : i ≠ 5) : (hdC σ k np).2 2 k i = σ.2 2 k i := by
  unfold hdC
  cases σ.2 2 k 4 <;> cases np <;> simp [sy_2, h4, h5]
theorem hdC_7 (σ : St) (k : Nat) (np : Option Nat) (p : Nat) : (hdC σ k np).2 1 p 7 = if np = some p then some k else if σ.2 2 k 4 = some p then none else σ.2 1 p 7 := by
  unfold hdC
  cases h : σ.2 2 k 4 <;> cases np <;> simp [sy_2, eq_comm]
def hdM (τ : St) (k : Nat) (v : Int32) : St := sx (sx τ 0 13 k (if τ.1 0 12 k < 0 then τ.1 0 13 k else τ.1 0 12 k)) 0 12 k v
theorem m_drop_eq (τ : St) {k : Nat} (hk : k < 40) : m_drop τ (nI k) = some (hdM τ k (-1)) := by
  unfold m_drop hdM
  simp only [ix_nI hk (show 40 < 2 ^ 31 by decide), obs, lt1_eq]
  by_cases h : τ.1 0 12 k < 0
  · simp only [if_pos h, obs]
  · simp only [if_neg h, obs]
theorem sx_sx (σ : St) (d j k : Nat) (v w : Int32) : sx (sx σ d j k v) d j k w = sx σ d j k w := by
  refine Prod.ext ?_ rfl
  funext d' j' k'
  simp only [sx_1]
  split <;> rfl
theorem hdM_sx (τ : St) (k : Nat) (v w : Int32) : sx (hdM τ k v) 0 12 k w = hdM τ k w := sx_sx _ _ _ _ _ _
theorem inv_hold {σ τ : St} {U P Q T R L E : Nat} (h : InvB σ τ U P Q T R L E) {k : Nat} (hk : k < Q) (hh : τ.1 0 14 k < 0) {np : Option Nat} (hnp : ∀ p, np = some p → p < P ∧ τ.1 0 8 p < 0 ∧ ∀ j, σ.2 1 p 7 = some j → j = k) : InvB (hdC σ k np) (hdM τ k (oI np)) U P Q T R L E := by
  obtain ⟨hs, hu, hp, hq, ht, hr, hl, he⟩ := h
  have hQ := hq.1
  have hP := hp.1
  have z0 : ∀ j, (hdC σ k np).2 0 j = σ.2 0 j := fun j => hdC_o σ k np (by decide) (by simp)
  have z3 : ∀ j, (hdC σ k np).2 3 j = σ.2 3 j := fun j => hdC_o σ k np (by decide) (by simp)
  have z4 : ∀ j, (hdC σ k np).2 4 j = σ.2 4 j := fun j => hdC_o σ k np (by decide) (by simp)
  have hm : ∀ j, j ≠ k → (hdM τ k (oI np)).1 0 12 j = τ.1 0 12 j := fun j hj => by simp [hdM, sx_1, hj]
  have hmk : (hdM τ k (oI np)).1 0 12 k = oI np := by simp [hdM, sx_1]
  have hn : ∀ j, j ≠ k → (hdM τ k (oI np)).1 0 13 j = τ.1 0 13 j := fun j hj => by simp [hdM, sx_1, hj]
  have hnk : (hdM τ k (oI np)).1 0 13 k = if τ.1 0 12 k < 0 then τ.1 0 13 k else τ.1 0 12 k := by simp [hdM, sx_1]
  obtain ⟨b1, b2, b3, b4, b5, b6, b7, b8, b9, b10, b11, b12, b13, b14, b15, b16, b17, b18⟩ := hq.2.2.2 k hk
  refine ⟨?_, ?_, ⟨hp.1, hp.2.1, ?_, fun p hpp => ?_⟩, ⟨hq.1, hq.2.1, ?_, fun j hj => ?_⟩, ⟨ht.1, ht.2.1, ?_, fun t htt => ?_⟩, ⟨hr.1, hr.2.1, ?_, fun r hrr => ?_⟩, ⟨hl.1, hl.2.1, ?_, fun i hi => ?_⟩, ⟨he.1, he.2.1, ?_, fun i hi => ?_⟩⟩
  · unfold ISc; rw [hdC_1]; exact hs
  · unfold IUn; rw [hdC_1]; exact hu
  · rw [hdC_1]; exact hp.2.2.1
  · obtain ⟨a1, a2, a3, a4, a5, a6, a7, a8, a9, a10, a11, a12, a13, a14, a15⟩ := hp.2.2.2 p hpp
    unfold IPo1
    rw [hdC_1, z0]
    refine ⟨a1, a2, a3, a4, a5, a6, a7, a8, a9, a10, a11, a12, a13, fun j hj => ?_, fun hno j hj => ?_⟩
    · rw [hdC_7] at hj
      by_cases e1 : np = some p
      · rw [if_pos e1] at hj
        cases hj
        exact ⟨hk, by rw [hmk, e1, oI_some]⟩
      · rw [if_neg e1] at hj
        by_cases e2 : σ.2 2 k 4 = some p
        · rw [if_pos e2] at hj; cases hj
        · rw [if_neg e2] at hj
          obtain ⟨c1, c2⟩ := a14 j hj
          refine ⟨c1, ?_⟩
          by_cases e : j = k
          · subst e
            rcases b15 with ⟨-, c3⟩ | ⟨p', d1, d2, d3, -⟩
            · rw [c3] at c2; exact absurd c2.symm (nI_m1 (by omega))
            · rw [d3] at c2
              rw [nI_inj (by omega) (by omega) c2] at d2
              exact absurd d2 e2
          · rw [hm j e]; exact c2
    · rw [hdC_7] at hno
      by_cases e1 : np = some p
      · rw [if_pos e1] at hno; cases hno
      · rw [if_neg e1] at hno
        by_cases e : j = k
        · subst e
          rw [hmk]
          cases np with
          | none => exact fun c => nI_m1 (k := p) (by omega) c.symm
          | some q =>
            rw [oI_some]
            intro c
            have := (hnp q rfl).1
            exact e1 (by rw [nI_inj (by omega) (by omega) c])
        · rw [hm j e]
          by_cases e2 : σ.2 2 k 4 = some p
          · intro c
            obtain ⟨d1, d2, d3, d4, d5, d6, d7, d8, d9, d10, d11, d12, d13, d14, d15, -⟩ := hq.2.2.2 j hj
            rcases d15 with ⟨-, c3⟩ | ⟨p', f1, f2, f3, f4, f5, f6⟩
            · rw [c3] at c; exact nI_m1 (k := p) (by omega) c.symm
            · rw [f3] at c
              have := nI_inj (by omega) (by omega) c
              subst this
              rcases b15 with ⟨c3, -⟩ | ⟨p'', g1, g2, g3, g4, g5, g6⟩
              · rw [e2] at c3; cases c3
              · rw [e2] at g2
                cases g2
                rw [f5] at g5
                exact e (Option.some.inj g5)
          · rw [if_neg e2] at hno
            exact a15 hno j hj
  · rw [hdC_1]; exact hq.2.2.1
  · obtain ⟨a1, a2, a3, a4, a5, a6, a7, a8, a9, a10, a11, a12, a13, a14, a15, a16, a17, a18⟩ := hq.2.2.2 j hj
    unfold IPe1
    rw [hdC_1, z0]
    by_cases e : j = k
    · subst e
      rw [hdC_4, hdC_5, hdC_i σ j np (i := 9) (by decide) (by decide), hdC_i σ j np (i := 10) (by decide) (by decide), hmk, hnk]
      refine ⟨a1, a2, a3, a4, a5, a6, a7, a8, a9, a10, a11, a12, a13, a14, ?_, ⟨fun hno => ?_, fun p hpp => ?_⟩, a17, a18⟩
      · cases np with
        | none => exact Or.inl ⟨rfl, rfl⟩
        | some p =>
          obtain ⟨c1, c2, c3⟩ := hnp p rfl
          exact Or.inr ⟨p, c1, rfl, rfl, c2, by rw [hdC_7, if_pos rfl], hh⟩
      · subst hno
        rw [if_pos rfl]
        rcases a15 with ⟨c1, c2⟩ | ⟨p, c1, c2, c3, -⟩
        · rw [c2, if_pos (by decide)]
          exact a16.1 c1
        · rw [c3, if_neg (nI_pos (by omega))]
          exact Or.inr ⟨p, c1, a16.2 p c2, rfl⟩
      · subst hpp
        rw [if_neg (by simp)]
    · rw [hdC_o σ k np (d := 2) (j := j) (by decide) (fun c => e c.2), hm j e, hn j e]
      refine ⟨a1, a2, a3, a4, a5, a6, a7, a8, a9, a10, a11, a12, a13, a14, ?_, a16, a17, a18⟩
      rcases a15 with c | ⟨p, c1, c2, c3, c4, c5, c6⟩
      · exact Or.inl c
      · refine Or.inr ⟨p, c1, c2, c3, c4, ?_, c6⟩
        rw [hdC_7, if_neg (fun e1 => e ((hnp p e1).2.2 j c5)), if_neg (fun e2 => ?_), c5]
        rcases b15 with ⟨c7, -⟩ | ⟨p'', g1, g2, g3, g4, g5, g6⟩
        · rw [e2] at c7; cases c7
        · rw [e2] at g2
          cases g2
          rw [c5] at g5
          exact e (Option.some.inj g5)
  · rw [hdC_1]; exact ht.2.2.1
  · have := ht.2.2.2 t htt
    unfold ITe1 at this ⊢
    rw [hdC_1, z0, z3]
    exact this
  · rw [hdC_1]; exact hr.2.2.1
  · have := hr.2.2.2 r hrr
    unfold IRi1 at this ⊢
    rw [hdC_1, z4]
    exact this
  · rw [hdC_1]; exact hl.2.2.1
  · rw [z0]; exact hl.2.2.2 i hi
  · rw [hdC_1]; exact he.2.2.1
  · rw [hdC_1]; exact he.2.2.2 i hi
/-- nobody holds it: it may be said to have come to its end -/
theorem inv_ended {σ τ : St} {U P Q T R L E : Nat} (h : InvB σ τ U P Q T R L E) {p : Nat} (hno : σ.2 1 p 7 = none) : InvB (sx σ 1 p 6 (τ.1 0 0 0)) (sx τ 0 8 p (τ.1 0 0 0)) U P Q T R L E := by
  obtain ⟨hs, hu, hp, hq, ht, hr, hl, he⟩ := h
  refine ⟨hs, hu, ⟨hp.1, hp.2.1, hp.2.2.1, fun j hj => ?_⟩, ⟨hq.1, hq.2.1, hq.2.2.1, fun k hk => ?_⟩, ht, hr, hl, he⟩
  · obtain ⟨a1, a2, a3, a4, a5, a6, a7, a8, a9, a10, a11, a12, a13, a14⟩ := hp.2.2.2 j hj
    refine ⟨a1, (by simpa [sx_1] using a2), (by simpa [sx_1] using a3), (by simpa [sx_1] using a4), (by simpa [sx_1] using a5), (by simpa [sx_1] using a6), (by simpa [sx_1] using a7), ?_, a9, a10, a11, a12, ?_, a14⟩
    · by_cases e : j = p
      · subst e; simp [sx_1]
      · simp [sx_1, e]; exact a8
    · by_cases e : j = p
      · subst e
        have : (sx τ 0 8 j (τ.1 0 0 0)).1 0 8 j = τ.1 0 0 0 := by simp [sx_1]
        rw [this]
        exact ⟨Int.le_trans (by decide) hs.2.1.1, Int.le_refl _⟩
      · have : (sx τ 0 8 p (τ.1 0 0 0)).1 0 8 j = τ.1 0 8 j := by simp [sx_1, e]
        rw [this]
        exact a13
  · obtain ⟨a1, a2, a3, a4, a5, a6, a7, a8, a9, a10, a11, a12, a13, a14, a15, a16⟩ := hq.2.2.2 k hk
    refine ⟨a1, a2, a3, a4, a5, a6, a7, a8, a9, a10, a11, a12, a13, a14, ?_, a16⟩
    rcases a15 with c | ⟨q, c1, c2, c3, c4, c5, c6⟩
    · exact Or.inl c
    · have e : q ≠ p := fun e => by subst e; rw [hno] at c5; cases c5
      exact Or.inr ⟨q, c1, c2, c3, by simpa [sx_1, e] using c4, c5, c6⟩
section Hold
variable {σ τ : St} {U P Q T R L E : Nat}
/-- the reference's search for a holder -/
theorem m_holder_eq (hp : IPo σ τ U P Q) (hq : IPe σ τ P Q T) {p : Nat} (hpp : p < P) : m_holder τ (nI p) = some (oI (σ.2 1 p 7)) := by
  have hQ := hq.1
  have hP := hp.1
  obtain ⟨-, -, -, -, -, -, -, -, -, -, -, -, -, a14, a15⟩ := hp.2.2.2 p hpp
  unfold m_holder
  cases hc : σ.2 1 p 7 with
  | none =>
    refine itr_bd Q nI (.inl ()) (FU_lt (by omega)) rfl (fun i hi => ?_) ?_ rfl
    · simp only [hq.2.1, if_pos (nI_lt hi (show Q < 2 ^ 31 by omega)), ix_nI (show i < 40 by omega) (show 40 < 2 ^ 31 by decide), obs, if_neg (a15 hc i hi), nI_1]
    · simp only [hq.2.1, if_neg (nI_nlt (Nat.le_refl Q) (by omega))]
  | some k =>
    obtain ⟨c1, c2⟩ := a14 k hc
    have un : ∀ j, j < Q → τ.1 0 12 j = nI p → j = k := by
      intro j hj e
      obtain ⟨d1, d2, d3, d4, d5, d6, d7, d8, d9, d10, d11, d12, d13, d14, d15, -⟩ := hq.2.2.2 j hj
      rcases d15 with ⟨-, c3⟩ | ⟨p', f1, f2, f3, f4, f5, f6⟩
      · rw [c3] at e; exact absurd e.symm (nI_m1 (by omega))
      · rw [f3] at e
        have := nI_inj (by omega) (by omega) e
        subst this
        rw [hc] at f5
        exact (Option.some.inj f5).symm
    refine itr_bd k nI (.inr (nI k)) (FU_lt (by omega)) rfl (fun i hi => ?_) ?_ rfl
    · simp only [hq.2.1, if_pos (nI_lt (show i < Q by omega) (show Q < 2 ^ 31 by omega)), ix_nI (show i < 40 by omega) (show 40 < 2 ^ 31 by decide), obs, if_neg (show ¬ τ.1 0 12 i = nI p from fun e => by have := un i (by omega) e; omega), nI_1]
    · simp only [hq.2.1, if_pos (nI_lt c1 (show Q < 2 ^ 31 by omega)), ix_nI (show k < 40 by omega) (show 40 < 2 ^ 31 by decide), obs, if_pos c2]
def vac (σ τ : St) (p : Nat) : Prop := τ.1 0 8 p < 0 ∧ σ.2 1 p 7 = none
theorem p_open_eq (hp : IPo σ τ U P Q) {p : Nat} (hpp : p < P) : p_Post_isOpen σ p = some (bI (τ.1 0 8 p < 0)) := by
  unfold p_Post_isOpen
  rw [(hp.2.2.2 p hpp).2.2.2.2.2.2.2.1]
  by_cases h : τ.1 0 8 p < 0
  · rw [if_pos h, bI_t h]
  · rw [if_neg h, bI_f h]
theorem vac_eq (hp : IPo σ τ U P Q) (hq : IPe σ τ P Q T) {p : Nat} (hpp : p < P) : ∃ b : Bool, (b = true ↔ vac σ τ p) ∧ p_Post_isVacant σ p = some (if b then 1 else 0) ∧ m_isVacant τ (nI p) = some (if b then 1 else 0) := by
  have hP := hp.1
  have hQ := hq.1
  have hlt := (hp.2.2.2 p hpp).2.2.2.2.2.2.2.2.2.2.2.2.2.1
  unfold p_Post_isVacant m_isVacant vac
  rw [p_open_eq hp hpp, m_holder_eq hp hq hpp, ix_nI (show p < 40 by omega) (show 40 < 2 ^ 31 by decide)]
  simp only [obs, lt1_eq, bI_eq0]
  by_cases h : τ.1 0 8 p < 0
  · cases hc : σ.2 1 p 7 with
    | none => exact ⟨true, by simp [h], by simp [h, oI], by simp [h, oI]⟩
    | some k =>
      have hk := (hlt k hc).1
      exact ⟨false, by simp [h], by simp [h], by simp [h, oI, nI_pos (show k < 2 ^ 31 by omega)]⟩
  · exact ⟨false, by simp [h], by simp [h], by simp [h]⟩
end Hold
