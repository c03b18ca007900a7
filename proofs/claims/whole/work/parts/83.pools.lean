/-! ===== pools: the reference ===== -/
/-- labels: the least of all that are joined -/
def PLS (inb : Nat → Bool) (lk : Nat → Nat → Bool) (P : Nat) (ℓ : Nat → Nat) : Prop :=
  (∀ p, p < P → inb p = true → ℓ p ≤ p ∧ inb (ℓ p) = true) ∧
  (∀ a b, a < P → b < P → inb a = true → inb b = true → lk a b = true → ℓ a = ℓ b) ∧
  (∀ S : Nat → Prop, (∀ a b, a < P → b < P → S a → inb a = true → inb b = true → lk a b = true → S b) → ∀ p, p < P → inb p = true → S (ℓ p) → S p)
theorem PLS.idem {inb : Nat → Bool} {lk : Nat → Nat → Bool} {P : Nat} {ℓ : Nat → Nat} (h : PLS inb lk P ℓ) {p : Nat} (hp : p < P) (hi : inb p = true) : ℓ (ℓ p) = ℓ p :=
  (h.2.2 (fun x => ℓ x = ℓ (ℓ p)) (fun a b ha hb hS hia hib hl => (h.2.1 a b ha hb hia hib hl).symm.trans hS) p hp hi rfl).symm
def rtb (inb : Nat → Bool) (ℓ : Nat → Nat) (p : Nat) : Bool := inb p && decide (ℓ p = p)
def pn (inb : Nat → Bool) (ℓ : Nat → Nat) (p : Nat) : Int32 := if inb p then nI (cnt (rtb inb ℓ) (ℓ p)) else -1
def lsum (f : Nat → Int32) : Nat → Nat
  | 0 => 0
  | n + 1 => lsum f n + (f n).toNatClampNeg
theorem lsum_le {f : Nat → Int32} {c : Nat} : ∀ {n : Nat}, (∀ p, p < n → (f p).toNatClampNeg ≤ c) → lsum f n ≤ n * c
  | 0, _ => by simp [lsum]
  | n + 1, h => by
    have h1 := lsum_le (f := f) (c := c) (n := n) (fun p hp => h p (by omega))
    have h2 := h n (by omega)
    show lsum f n + _ ≤ _
    rw [Nat.succ_mul]
    omega
theorem lsum_cong {f g : Nat → Int32} : ∀ {n : Nat}, (∀ p, p < n → f p = g p) → lsum f n = lsum g n
  | 0, _ => rfl
  | n + 1, h => by
    show lsum f n + _ = lsum g n + _
    rw [lsum_cong (n := n) (fun p hp => h p (by omega)), h n (by omega)]
theorem lsum_upd {f g : Nat → Int32} {b : Nat} : ∀ {n : Nat}, b < n → (∀ p, p ≠ b → g p = f p) → (g b).toNatClampNeg < (f b).toNatClampNeg → lsum g n < lsum f n
  | 0, h, _, _ => by omega
  | n + 1, h, h1, h2 => by
    show lsum g n + _ < lsum f n + _
    by_cases e : b = n
    · subst e
      rw [lsum_cong (f := g) (g := f) (fun p hp => h1 p (by omega))]
      omega
    · have := lsum_upd (f := f) (g := g) (n := n) (by omega) h1 h2
      rw [h1 n (fun c => e c.symm)]
      omega
section PoolsM
variable {σ τ : St} {U P Q T R L E : Nat}
theorem m_below_at (h : InvB σ τ U P Q T R L E) {u p : Nat} (huu : u < U) (hpp : p < P) : (if τ.1 0 8 p < 0 then (Option.bind (m_isBelow τ (τ.1 0 3 p) (nI u)) fun r72 => (if r72 = 0 then some (-1 : Int32) else some (nI p))) else some (-1 : Int32)) = some (if inB σ τ u p then nI p else -1) := by
  obtain ⟨hs, hu, hp, hq, ht, hr, hl, he⟩ := h
  obtain ⟨h1, h2, h3⟩ := uo_eq hp hu.1 hpp
  rw [h2, m_below_eq hu huu h1, obs]
  unfold inB
  by_cases c1 : τ.1 0 8 p < 0
  · rw [if_pos c1, decide_eq_true c1]
    cases upB σ u (uo τ p) <;> rfl
  · rw [if_neg c1, decide_eq_false c1]
    rfl
/-- the labels on the way -/
def PJ (inb : Nat → Bool) (lk : Nat → Nat → Bool) (P : Nat) (f : Nat → Int32) : Prop := ∀ p, p < P → (inb p = false → f p = -1) ∧ (inb p = true → ∃ q, q ≤ p ∧ f p = nI q ∧ inb q = true ∧ ∀ S : Nat → Prop, (∀ a b, a < P → b < P → S a → inb a = true → inb b = true → lk a b = true → S b) → S q → S p)
theorem PJ.upd {inb : Nat → Bool} {lk : Nat → Nat → Bool} {f g : Nat → Int32} (hP : P ≤ 40) (h : PJ inb lk P f) {a b : Nat} (ha : a < P) (hb : b < P) (h1 : ¬ f a < 0) (h2 : f a < f b) (h3 : lk a b = true) (hg : ∀ p, g p = if p = b then f a else f p) : PJ inb lk P g ∧ lsum g P < lsum f P := by
  have ia : inb a = true := by
    cases hc : inb a with
    | true => rfl
    | false => rw [(h a ha).1 hc] at h1; exact absurd (by decide) h1
  have ib : inb b = true := by
    cases hc : inb b with
    | true => rfl
    | false =>
      rw [(h b hb).1 hc] at h2
      rw [i_lt] at h1 h2
      have e : (-1 : Int32).toInt = -1 := rfl
      have e0 : (0 : Int32).toInt = 0 := rfl
      omega
  obtain ⟨q, q1, q2, q3, q4⟩ := (h a ha).2 ia
  obtain ⟨r, r1, r2, r3, r4⟩ := (h b hb).2 ib
  have hqr : q < r := by rw [q2, r2, nI_ltI (by omega) (by omega)] at h2; exact h2
  refine ⟨fun p hp => ?_, lsum_upd hb (fun p hp => by rw [hg p, if_neg hp]) ?_⟩
  · rw [hg p]
    by_cases e : p = b
    · subst e
      rw [if_pos rfl]
      exact ⟨fun c => absurd (ib.symm.trans c) (by decide), fun _ => ⟨q, by omega, q2, q3, fun S hS hq => hS a p ha hp (q4 S hS hq) ia ib h3⟩⟩
    · rw [if_neg e]
      exact h p hp
  · rw [hg b, if_pos rfl, q2, r2, nI_clamp (by omega), nI_clamp (by omega)]
    exact hqr
def vio (lk : Nat → Nat → Bool) (f : Nat → Int32) (a b : Nat) : Prop := ¬ f a < 0 ∧ f a < f b ∧ lk a b = true
theorem PJ.ls {inb : Nat → Bool} {lk : Nat → Nat → Bool} {f : Nat → Int32} (hP : P ≤ 40) (hsym : ∀ a b, lk a b = lk b a) (h : PJ inb lk P f) (hv : ∀ a b, a < P → b < P → ¬ vio lk f a b) : PLS inb lk P (fun p => (f p).toNatClampNeg) := by
  refine ⟨fun p hp hi => ?_, fun a b ha hb hia hib hl => ?_, fun S hS p hp hi hs => ?_⟩
  · obtain ⟨q, q1, q2, q3, q4⟩ := (h p hp).2 hi
    show (f p).toNatClampNeg ≤ p ∧ inb (f p).toNatClampNeg = true
    rw [q2, nI_clamp (by omega)]
    exact ⟨q1, q3⟩
  · obtain ⟨q, q1, q2, q3, q4⟩ := (h a ha).2 hia
    obtain ⟨r, r1, r2, r3, r4⟩ := (h b hb).2 hib
    have v1 := hv a b ha hb
    have v2 := hv b a hb ha
    unfold vio at v1 v2
    rw [q2, r2] at v1 v2
    show (f a).toNatClampNeg = (f b).toNatClampNeg
    rw [q2, r2, nI_clamp (by omega), nI_clamp (by omega)]
    rcases Nat.lt_trichotomy q r with c | c | c
    · exact absurd ⟨nI_pos (by omega), nI_lt c (by omega), hl⟩ v1
    · exact c
    · exact absurd ⟨nI_pos (by omega), nI_lt c (by omega), by rw [hsym]; exact hl⟩ v2
  · obtain ⟨q, q1, q2, q3, q4⟩ := (h p hp).2 hi
    have hs' : S (f p).toNatClampNeg := hs
    rw [q2, nI_clamp (by omega)] at hs'
    exact q4 S hS hs'
set_option maxHeartbeats 1000000 in
theorem m_pools_ok (h : InvB σ τ U P Q T R L E) {u : Nat} (huu : u < U) : OK (m_findPools τ (nI u)) (fun r => ∃ ℓ, PLS (inB σ τ u) (lkB τ) P ℓ ∧ r.1 = nI (cnt (rtb (inB σ τ u) ℓ) P) ∧ FrM τ r.2 ∧ ∀ p, p < P → r.2.1 0 27 p = pn (inB σ τ u) ℓ p) := by
  obtain ⟨hs, hu, hp, hq, ht, hr, hl, he⟩ := id h
  have hP := hp.1
  have hin : ∀ τ', FrM τ τ' → ∀ p, inB σ τ' u p = inB σ τ u p := fun τ' hf p => by
    unfold inB uo
    rw [(hf 0 8 p rfl).1, (hf 0 3 p rfl).1]
  have hlk : ∀ τ', FrM τ τ' → ∀ a b, lkB τ' a b = lkB τ a b := fun τ' hf a b => by
    unfold lkB
    rw [(hf 0 4 a rfl).1, (hf 0 4 b rfl).1, (hf 0 5 a rfl).1, (hf 0 5 b rfl).1, (hf 0 7 a rfl).1, (hf 0 7 b rfl).1, (hf 0 0 20 rfl).1]
  unfold m_findPools
  -- the first loop
  refine OK.bi (OK.mono (R := fun τ1 => FrM τ τ1 ∧ ∀ p, p < P → τ1.1 0 26 p = if inB σ τ u p then nI p else -1) ?_ ?_)
  · refine OK.itr P (fun i s => s.1 = nI i ∧ FrM τ s.2 ∧ ∀ p, p < i → s.2.1 0 26 p = if inB σ τ u p then nI p else -1) ⟨rfl, Fr.refl _, fun p hp => by omega⟩ (fun i s hi hs' => ?_) (fun s hs' => ?_) (FU_lt (by omega))
    · obtain ⟨i', τ'⟩ := s
      obtain ⟨e1, hf, hI⟩ := hs'
      simp only at e1 hf hI
      subst e1
      have hb := m_below_at (h.frM hf) huu hi
      rw [hin τ' hf] at hb
      simp only [(hf 0 0 4 rfl).1, hp.2.1, if_pos (nI_lt hi (show P < 2 ^ 31 by omega)), ix_nI (show i < 40 by omega) (show 40 < 2 ^ 31 by decide), obs, hb, lt1_eq, nI_1]
      refine OK.so ⟨rfl, hf.sx rfl, fun p hp' => ?_⟩
      rw [sx_1]
      by_cases e : p = i
      · subst e; simp
      · rw [if_neg (fun c => e c.2.2)]
        exact hI p (by omega)
    · obtain ⟨i', τ'⟩ := s
      obtain ⟨e1, hf, hI⟩ := hs'
      simp only at e1 hf hI
      subst e1
      simp only [(hf 0 0 4 rfl).1, hp.2.1, if_neg (nI_nlt (Nat.le_refl P) (show P < 2 ^ 31 by omega))]
      exact OK.so ⟨hf, hI⟩
  rintro τ1 ⟨hf1, hI1⟩
  -- the second: till nothing changes
  refine OK.bi (OK.mono (R := fun τ2 => FrM τ τ2 ∧ PJ (inB σ τ u) (lkB τ) P (τ2.1 0 26) ∧ ∀ a b, a < P → b < P → ¬ vio (lkB τ) (τ2.1 0 26) a b) ?_ ?_)
  · refine OK.itm (fun s => if s.1 = 0 then 0 else 1 + lsum (s.2.1 0 26) P) (fun s => (s.1 = 0 ∨ s.1 = 1) ∧ FrM τ s.2 ∧ PJ (inB σ τ u) (lkB τ) P (s.2.1 0 26) ∧ (s.1 = 0 → ∀ a b, a < P → b < P → ¬ vio (lkB τ) (s.2.1 0 26) a b)) (fun s hs' => ?_) ⟨Or.inr rfl, hf1, fun p hpp => ?_, fun c => absurd c (show ¬ (1 : Int32) = 0 by decide)⟩ ?_
    · obtain ⟨m0, τ0⟩ := s
      obtain ⟨hm, hf, hJ, hx⟩ := hs'
      simp only at hm hf hJ hx ⊢
      rcases hm with rfl | rfl
      · rw [if_pos rfl]
        exact OK.so ⟨hf, hJ, hx rfl⟩
      · rw [if_neg (show ¬ (1 : Int32) = 0 by decide)]
        refine OK.bi (OK.mono (R := fun s => FrM τ s.2 ∧ PJ (inB σ τ u) (lkB τ) P (s.2.1 0 26) ∧ ((s.1 = 0 ∧ ∀ a b, a < P → b < P → ¬ vio (lkB τ) (s.2.1 0 26) a b) ∨ (s.1 = 1 ∧ lsum (s.2.1 0 26) P < lsum (τ0.1 0 26) P))) ?_ ?_)
        · refine OK.itr P (fun i s => s.2.1 = nI i ∧ FrM τ s.2.2 ∧ PJ (inB σ τ u) (lkB τ) P (s.2.2.1 0 26) ∧ ((s.1 = 0 ∧ s.2.2.1 0 26 = τ0.1 0 26 ∧ ∀ a b, a < i → b < P → ¬ vio (lkB τ) (τ0.1 0 26) a b) ∨ (s.1 = 1 ∧ lsum (s.2.2.1 0 26) P < lsum (τ0.1 0 26) P))) ⟨rfl, hf, hJ, Or.inl ⟨rfl, rfl, fun a b c => by omega⟩⟩ (fun a s ha hs' => ?_) (fun s hs' => ?_) (FU_lt (by omega))
          · obtain ⟨m1, a', τ1'⟩ := s
            obtain ⟨e1, hf2, hJ2, hc2⟩ := hs'
            simp only at e1 hf2 hJ2 hc2 ⊢
            subst e1
            rw [(hf2 0 0 4 rfl).1, hp.2.1, if_pos (nI_lt ha (show P < 2 ^ 31 by omega))]
            refine OK.bi (OK.mono (R := fun s => FrM τ s.2 ∧ PJ (inB σ τ u) (lkB τ) P (s.2.1 0 26) ∧ ((s.1 = 0 ∧ s.2.1 0 26 = τ0.1 0 26 ∧ ∀ a' b, a' < a + 1 → b < P → ¬ vio (lkB τ) (τ0.1 0 26) a' b) ∨ (s.1 = 1 ∧ lsum (s.2.1 0 26) P < lsum (τ0.1 0 26) P))) ?_ ?_)
            · refine OK.itr P (fun i s => s.2.1 = nI i ∧ FrM τ s.2.2 ∧ PJ (inB σ τ u) (lkB τ) P (s.2.2.1 0 26) ∧ ((s.1 = 0 ∧ s.2.2.1 0 26 = τ0.1 0 26 ∧ (∀ a' b, a' < a → b < P → ¬ vio (lkB τ) (τ0.1 0 26) a' b) ∧ ∀ b, b < i → ¬ vio (lkB τ) (τ0.1 0 26) a b) ∨ (s.1 = 1 ∧ lsum (s.2.2.1 0 26) P < lsum (τ0.1 0 26) P))) ⟨rfl, hf2, hJ2, ?_⟩ (fun b s hb hs' => ?_) (fun s hs' => ?_) (FU_lt (by omega))
              · rcases hc2 with ⟨c1, c2, c3⟩ | c
                · exact Or.inl ⟨c1, c2, c3, fun b hb => by omega⟩
                · exact Or.inr c
              · obtain ⟨m3, b', τ3⟩ := s
                obtain ⟨e1, hf3, hJ3, hc3⟩ := hs'
                simp only at e1 hf3 hJ3 hc3 ⊢
                subst e1
                have hle := m_like_eq (h.frM hf3).2.2.1 ha hb
                rw [hlk τ3 hf3] at hle
                rw [(hf3 0 0 4 rfl).1, hp.2.1, if_pos (nI_lt hb (show P < 2 ^ 31 by omega))]
                simp only [ix_nI (show a < 40 by omega) (show 40 < 2 ^ 31 by decide), ix_nI (show b < 40 by omega) (show 40 < 2 ^ 31 by decide), obs, hle, lt1_eq, nI_1]
                -- nothing is done
                have keep : ¬ vio (lkB τ) (τ3.1 0 26) a b → OK (some (Sum.inl (β := Int32 × St) (m3, nI (b + 1), τ3))) (fun x => Sum.elim (fun s' : Int32 × Int32 × St => s'.2.1 = nI (b + 1) ∧ FrM τ s'.2.2 ∧ PJ (inB σ τ u) (lkB τ) P (s'.2.2.1 0 26) ∧ ((s'.1 = 0 ∧ s'.2.2.1 0 26 = τ0.1 0 26 ∧ (∀ a' b, a' < a → b < P → ¬ vio (lkB τ) (τ0.1 0 26) a' b) ∧ ∀ b', b' < b + 1 → ¬ vio (lkB τ) (τ0.1 0 26) a b') ∨ (s'.1 = 1 ∧ lsum (s'.2.2.1 0 26) P < lsum (τ0.1 0 26) P))) (fun s => FrM τ s.2 ∧ PJ (inB σ τ u) (lkB τ) P (s.2.1 0 26) ∧ ((s.1 = 0 ∧ s.2.1 0 26 = τ0.1 0 26 ∧ ∀ a' b, a' < a + 1 → b < P → ¬ vio (lkB τ) (τ0.1 0 26) a' b) ∨ (s.1 = 1 ∧ lsum (s.2.1 0 26) P < lsum (τ0.1 0 26) P))) x) := by
                  intro hv
                  refine OK.so ⟨rfl, hf3, hJ3, ?_⟩
                  rcases hc3 with ⟨c1, c2, c3, c4⟩ | c
                  · refine Or.inl ⟨c1, c2, c3, fun b' hb' => ?_⟩
                    by_cases e : b' = b
                    · subst e; rw [← c2]; exact hv
                    · exact c4 b' (by omega)
                  · exact Or.inr c
                by_cases c1 : τ3.1 0 26 a < 0
                · rw [if_pos c1]
                  exact keep (fun v => v.1 c1)
                · rw [if_neg c1]
                  by_cases c2 : τ3.1 0 26 a < τ3.1 0 26 b
                  · rw [if_pos c2]
                    cases c3 : lkB τ a b with
                    | false =>
                      simp only [Bool.false_eq_true, if_false, if_true, obs]
                      exact keep (fun v => by rw [v.2.2] at c3; cases c3)
                    | true =>
                      simp only [if_true, if_neg (show ¬ (1 : Int32) = 0 by decide), obs]
                      have hg : ∀ p, (sx τ3 0 26 b (τ3.1 0 26 a)).1 0 26 p = if p = b then τ3.1 0 26 a else τ3.1 0 26 p := fun p => by simp [sx_1]
                      obtain ⟨k1, k2⟩ := hJ3.upd hP ha hb c1 c2 c3 hg
                      refine OK.so ⟨rfl, hf3.sx rfl, k1, Or.inr ⟨rfl, ?_⟩⟩
                      rcases hc3 with ⟨-, d2, -⟩ | ⟨-, d2⟩
                      · rw [← d2]; exact k2
                      · exact Nat.lt_trans k2 d2
                  · rw [if_neg c2]
                    exact keep (fun v => c2 v.2.1)
              · obtain ⟨m3, b', τ3⟩ := s
                obtain ⟨e1, hf3, hJ3, hc3⟩ := hs'
                simp only at e1 hf3 hJ3 hc3 ⊢
                subst e1
                rw [(hf3 0 0 4 rfl).1, hp.2.1, if_neg (nI_nlt (Nat.le_refl P) (show P < 2 ^ 31 by omega))]
                refine OK.so ⟨hf3, hJ3, ?_⟩
                rcases hc3 with ⟨c1, c2, c3, c4⟩ | c
                · refine Or.inl ⟨c1, c2, fun a' b ha' hb => ?_⟩
                  by_cases e : a' = a
                  · subst e; exact c4 b hb
                  · exact c3 a' b (by omega) hb
                · exact Or.inr c
            · rintro ⟨m3, τ3⟩ ⟨hf3, hJ3, hc3⟩
              simp only [nI_1]
              exact OK.so ⟨rfl, hf3, hJ3, hc3⟩
          · obtain ⟨m1, a', τ1'⟩ := s
            obtain ⟨e1, hf2, hJ2, hc2⟩ := hs'
            simp only at e1 hf2 hJ2 hc2 ⊢
            subst e1
            rw [(hf2 0 0 4 rfl).1, hp.2.1, if_neg (nI_nlt (Nat.le_refl P) (show P < 2 ^ 31 by omega))]
            refine OK.so ⟨hf2, hJ2, ?_⟩
            rcases hc2 with ⟨c1, c2, c3⟩ | c
            · exact Or.inl ⟨c1, by simp only [c2]; exact c3⟩
            · exact Or.inr c
        · rintro ⟨m3, τ3⟩ ⟨hf3, hJ3, hc3⟩
          simp only at hf3 hJ3 hc3 ⊢
          rcases hc3 with ⟨rfl, c2⟩ | ⟨rfl, c2⟩
          · exact OK.so ⟨⟨Or.inl rfl, hf3, hJ3, fun _ => c2⟩, by simp; omega⟩
          · refine OK.so ⟨⟨Or.inr rfl, hf3, hJ3, fun c => absurd c (show ¬ (1 : Int32) = 0 by decide)⟩, ?_⟩
            show (if (1 : Int32) = 0 then 0 else 1 + lsum (τ3.1 0 26) P) < (if (1 : Int32) = 0 then 0 else 1 + lsum (τ0.1 0 26) P)
            rw [if_neg (by decide), if_neg (by decide)]
            omega
    · show _ ∧ _
      simp only [hI1 p hpp]
      constructor
      · intro c; rw [c]; rfl
      · intro c; rw [c, if_pos rfl]; exact ⟨p, Nat.le_refl _, rfl, c, fun S _ hq => hq⟩
    · show (if (1 : Int32) = 0 then 0 else 1 + lsum (τ1.1 0 26) P) < FU
      rw [if_neg (by decide)]
      have : lsum (τ1.1 0 26) P ≤ P * 40 := lsum_le (fun p hpp => by
        rw [hI1 p hpp]
        cases inB σ τ u p with
        | true => rw [if_pos rfl, nI_clamp (by omega)]; omega
        | false => exact Nat.zero_le _)
      have h2 : P * 40 ≤ 40 * 40 := Nat.mul_le_mul_right 40 hP
      exact FU_lt (by omega)
  rintro τ2 ⟨hf2, hJ2, hv2⟩
  have hLS := hJ2.ls hP (lkB_comm τ) hv2
  generalize hℓ : (fun p => (τ2.1 0 26 p).toNatClampNeg) = ℓ at hLS
  have hlab : ∀ p, p < P → τ2.1 0 26 p = if inB σ τ u p then nI (ℓ p) else -1 := by
    intro p hpp
    rw [← hℓ]
    cases hc : inB σ τ u p with
    | false => exact (hJ2 p hpp).1 hc
    | true =>
      obtain ⟨q, q1, q2, -⟩ := (hJ2 p hpp).2 hc
      rw [if_pos rfl]
      show τ2.1 0 26 p = nI (τ2.1 0 26 p).toNatClampNeg
      rw [q2, nI_clamp (by omega)]
  -- the third: numbers
  refine OK.bi (OK.mono (R := fun s => s.1 = nI (cnt (rtb (inB σ τ u) ℓ) P) ∧ FrM τ s.2 ∧ ∀ p, p < P → s.2.1 0 27 p = pn (inB σ τ u) ℓ p) ?_ (fun s hs' => OK.so ⟨ℓ, hLS, hs'⟩))
  refine OK.itr P (fun i s => s.1 = nI (cnt (rtb (inB σ τ u) ℓ) i) ∧ s.2.1 = nI i ∧ FrM τ s.2.2 ∧ (∀ p, s.2.2.1 0 26 p = τ2.1 0 26 p) ∧ ∀ p, p < i → s.2.2.1 0 27 p = pn (inB σ τ u) ℓ p) ⟨rfl, rfl, hf2, fun _ => rfl, fun p hp => by omega⟩ (fun i s hi hs' => ?_) (fun s hs' => ?_) (FU_lt (by omega))
  · obtain ⟨n, i', τ3⟩ := s
    obtain ⟨e0, e1, hf3, h26, h27⟩ := hs'
    simp only at e0 e1 hf3 h26 h27 ⊢
    subst e1
    subst e0
    rw [(hf3 0 0 4 rfl).1, hp.2.1, if_pos (nI_lt hi (show P < 2 ^ 31 by omega))]
    simp only [ix_nI (show i < 40 by omega) (show 40 < 2 ^ 31 by decide), obs, lt1_eq, nI_1]
    have h26' : ∀ v, (sx τ3 0 27 i v).1 0 26 i = τ2.1 0 26 i := fun v => h26 i
    simp only [h26', h26, cnt_step]
    have fin : ∀ (n' v : Int32), v = pn (inB σ τ u) ℓ i → n' = (if rtb (inB σ τ u) ℓ i then nI (cnt (rtb (inB σ τ u) ℓ) i) + 1 else nI (cnt (rtb (inB σ τ u) ℓ) i)) → OK (some (Sum.inl (β := Int32 × St) (n', nI (i + 1), sx τ3 0 27 i v))) (fun x => Sum.elim (fun s' : Int32 × Int32 × St => s'.1 = (if rtb (inB σ τ u) ℓ i then nI (cnt (rtb (inB σ τ u) ℓ) i) + 1 else nI (cnt (rtb (inB σ τ u) ℓ) i)) ∧ s'.2.1 = nI (i + 1) ∧ FrM τ s'.2.2 ∧ (∀ p, s'.2.2.1 0 26 p = τ2.1 0 26 p) ∧ ∀ p, p < i + 1 → s'.2.2.1 0 27 p = pn (inB σ τ u) ℓ p) (fun s => s.1 = nI (cnt (rtb (inB σ τ u) ℓ) P) ∧ FrM τ s.2 ∧ ∀ p, p < P → s.2.1 0 27 p = pn (inB σ τ u) ℓ p) x) := by
      intro n' v hv hn'
      refine OK.so ⟨hn', rfl, hf3.sx rfl, h26, fun p hp' => ?_⟩
      show (sx τ3 0 27 i v).1 0 27 p = _
      rw [sx_1]
      by_cases e : p = i
      · subst e; simp [hv]
      · rw [if_neg (fun c => e c.2.2)]
        exact h27 p (by omega)
    cases hc : inB σ τ u i with
    | false =>
      have e1 : τ2.1 0 26 i = -1 := by rw [hlab i hi, hc]; rfl
      have e2 : ¬ (-1 : Int32) = nI i := fun e => nI_m1 (k := i) (by omega) e.symm
      simp only [e1, if_pos (show (-1 : Int32) < 0 by decide), obs, if_neg e2]
      refine fin _ _ ?_ ?_
      · unfold pn; rw [hc]; rfl
      · unfold rtb; rw [hc]
        show _ + (0 : Int32) = _
        simp
    | true =>
      obtain ⟨k1, k2⟩ := hLS.1 i hi hc
      have e1 : τ2.1 0 26 i = nI (ℓ i) := by rw [hlab i hi, hc]; rfl
      simp only [e1, if_neg (nI_pos (show ℓ i < 2 ^ 31 by omega))]
      by_cases c2 : ℓ i = i
      · simp only [c2, if_true, obs, if_neg (nI_pos (show i < 2 ^ 31 by omega))]
        refine fin _ _ ?_ ?_
        · unfold pn; rw [hc, c2]; rfl
        · unfold rtb; rw [hc, c2]
          simp
      · have e3 : ¬ nI (ℓ i) = nI i := fun e => c2 (nI_inj (by omega) (by omega) e)
        simp only [if_neg e3, ix_nI (show ℓ i < 40 by omega) (show 40 < 2 ^ 31 by decide), obs, h27 (ℓ i) (by omega)]
        refine fin _ _ ?_ ?_
        · unfold pn; rw [hc, k2, hLS.idem hi hc]
        · unfold rtb; rw [hc]
          simp [c2]
  · obtain ⟨n, i', τ3⟩ := s
    obtain ⟨e0, e1, hf3, h26, h27⟩ := hs'
    simp only at e0 e1 hf3 h26 h27 ⊢
    subst e1
    rw [(hf3 0 0 4 rfl).1, hp.2.1, if_neg (nI_nlt (Nat.le_refl P) (show P < 2 ^ 31 by omega))]
    exact OK.so ⟨e0, hf3, h27⟩
end PoolsM
