/-! ===== LEVEL 2: the pure functions ===== -/
theorem ix_nI {k n : Nat} (h : k < n) (hn : n < 2 ^ 31) : ix n (nI k) = some k := by
  unfold ix
  rw [if_neg (nI_pos (by omega)), nI_clamp (by omega), if_pos h]
theorem ix_of {n k : Nat} {x : Int32} (h : x = nI k) (hk : k < n) (hn : n < 2 ^ 31) : ix n x = some k := by rw [h]; exact ix_nI hk hn
/-- a loop that goes through the states st 0, st 1 .. st n and then ends -/
theorem itr_run {S E : Type} {f : S → Option (S ⊕ E)} (n : Nat) (st : Nat → S) (e : E) (h : ∀ i, i < n → f (st i) = some (.inl (st (i + 1)))) (hx : f (st n) = some (.inr e)) : ∀ (F i : Nat), i ≤ n → n < F + i → itr0 f F (st i) = some e := by
  intro F
  induction F with
  | zero => intro i h1 h2; omega
  | succ F ih =>
    intro i h1 h2
    show (f (st i)).bind _ = some e
    by_cases hi : i = n
    · subst hi; rw [hx]; rfl
    · rw [h i (by omega)]
      exact ih (i + 1) (by omega) (by omega)
/-- a loop by an invariant: a step goes on, or ends as wanted; at n it ends -/
theorem itr_inv {S E : Type} {f : S → Option (S ⊕ E)} (n : Nat) (I : Nat → S → Prop) (R : E → Prop) (h : ∀ i s, i < n → I i s → (∃ s', f s = some (.inl s') ∧ I (i + 1) s') ∨ (∃ e, f s = some (.inr e) ∧ R e)) (hx : ∀ s, I n s → ∃ e, f s = some (.inr e) ∧ R e) : ∀ (F i : Nat) (s : S), i ≤ n → n < F + i → I i s → ∃ e, itr0 f F s = some e ∧ R e := by
  intro F
  induction F with
  | zero => intro i s h1 h2; omega
  | succ F ih =>
    intro i s h1 h2 hI
    show ∃ e, (f s).bind _ = some e ∧ R e
    by_cases hi : i = n
    · subst hi
      obtain ⟨e, he, hr⟩ := hx s hI
      exact ⟨e, by rw [he]; rfl, hr⟩
    · rcases h i s (by omega) hI with ⟨s', hs, hI'⟩ | ⟨e, he, hr⟩
      · obtain ⟨e, he, hr⟩ := ih (i + 1) s' (by omega) (by omega) hI'
        exact ⟨e, by rw [hs]; exact he, hr⟩
      · exact ⟨e, by rw [he]; rfl, hr⟩
theorem FU_gt {n : Nat} (h : n < 1000000) : n < FU + 0 := h
theorem lt1_eq {α β : Type} (x : α) (k : α → β) : lt1 x k = k x := rfl
/-- 1 or 0 -/
def bI (p : Prop) [Decidable p] : Int32 := if p then 1 else 0
theorem bI_eq0 {p : Prop} [Decidable p] : bI p = 0 ↔ ¬ p := by
  unfold bI
  by_cases h : p
  · simp [h]
  · simp [h]
theorem bI_t {p : Prop} [Decidable p] (h : p) : bI p = 1 := by unfold bI; rw [if_pos h]
theorem bI_f {p : Prop} [Decidable p] (h : ¬ p) : bI p = 0 := by unfold bI; rw [if_neg h]
theorem i_lt (a b : Int32) : a < b ↔ a.toInt < b.toInt := Int32.lt_iff_toInt_lt
theorem i_le (a b : Int32) : a ≤ b ↔ a.toInt ≤ b.toInt := Int32.le_iff_toInt_le
theorem i_eq (a b : Int32) : a = b ↔ a.toInt = b.toInt := Int32.toInt_inj.symm
/-- an index: it is some number below n, or it isn't within -/
theorem in_or (a : Int32) {n : Nat} (hn : n < 2 ^ 31) : (∃ k, k < n ∧ a = nI k) ∨ (∀ k, k < n → a ≠ nI k) ∧ (a < 0 ∨ nI n ≤ a) := by
  rcases pk_ix a hn with h | h | h
  · exact Or.inr ⟨fun k hk e => by rw [e] at h; exact nI_pos (by omega) h, Or.inl h⟩
  · exact Or.inr ⟨fun k hk e => by rw [e] at h; exact nI_ge hk hn h, Or.inr h⟩
  · exact Or.inl h
theorem nI_m1 {k : Nat} (h : k < 2 ^ 31) : nI k ≠ -1 := by
  intro e
  have := nI_pos (n := k) h
  rw [e] at this
  exact this (by decide)
theorem nI_inj {a b : Nat} (ha : a < 2 ^ 31) (hb : b < 2 ^ 31) (h : nI a = nI b) : a = b := (nI_eq ha hb).mp h
/-- the last i below n with p -/
def lastB (p : Nat → Bool) : Nat → Option Nat
  | 0 => none
  | n + 1 => if p n then some n else lastB p n
theorem lastB_some {p : Nat → Bool} : ∀ {n i : Nat}, lastB p n = some i → i < n ∧ p i = true ∧ ∀ j, i < j → j < n → p j = false
  | 0, i, h => by cases h
  | n + 1, i, h => by
    unfold lastB at h
    split at h
    · rename_i hp
      cases h
      exact ⟨Nat.lt_succ_self _, hp, fun j h1 h2 => by omega⟩
    · rename_i hp
      obtain ⟨h1, h2, h3⟩ := lastB_some h
      refine ⟨by omega, h2, fun j h4 h5 => ?_⟩
      by_cases e : j = n
      · subst e; simpa using hp
      · exact h3 j h4 (by omega)
theorem lastB_none {p : Nat → Bool} : ∀ {n : Nat}, lastB p n = none → ∀ j, j < n → p j = false
  | 0, _, j, hj => by omega
  | n + 1, h, j, hj => by
    unfold lastB at h
    split at h
    · cases h
    · rename_i hp
      by_cases e : j = n
      · subst e; simpa using hp
      · exact lastB_none h j (by omega)
theorem lastB_cong {p q : Nat → Bool} : ∀ {n : Nat}, (∀ i, i < n → p i = q i) → lastB p n = lastB q n
  | 0, _ => rfl
  | n + 1, h => by
    unfold lastB
    rw [h n (Nat.lt_succ_self n), lastB_cong (fun i hi => h i (by omega))]
theorem lastB_is {p : Nat → Bool} {n i : Nat} (h1 : i < n) (h2 : p i = true) (h3 : ∀ j, i < j → j < n → p j = false) : lastB p n = some i := by
  cases h : lastB p n with
  | none => have := lastB_none h i h1; rw [h2] at this; cases this
  | some j =>
    obtain ⟨g1, g2, g3⟩ := lastB_some h
    congr 1
    rcases Nat.lt_trichotomy i j with e | e | e
    · have := h3 j e g1; rw [g2] at this; cases this
    · exact e.symm
    · have := g3 i e h1; rw [h2] at this; cases this
theorem lastB_no {p : Nat → Bool} {n : Nat} (h : ∀ j, j < n → p j = false) : lastB p n = none := by
  cases e : lastB p n with
  | none => rfl
  | some j =>
    obtain ⟨g1, g2, -⟩ := lastB_some e
    rw [h j g1] at g2; cases g2
/-! the relation -/
/-- within -/
def Rg (lo hi : Int) (x : Int32) : Prop := lo ≤ x.toInt ∧ x.toInt ≤ hi
def ISc (σ τ : St) : Prop := σ.1 0 1 0 = τ.1 0 0 0 ∧ Rg 0 3000 (τ.1 0 0 0) ∧ (∀ w, w < 4 → σ.1 0 13 w = τ.1 0 17 w ∧ Rg 0 20 (τ.1 0 17 w)) ∧ σ.1 0 14 0 = τ.1 0 0 20 ∧ σ.1 0 14 1 = τ.1 0 0 21 ∧ σ.1 0 14 2 = τ.1 0 0 22 ∧ Rg 0 10 (τ.1 0 0 20) ∧ Rg 0 5 (τ.1 0 0 21) ∧ Rg 100 9999 (τ.1 0 0 22) ∧ ∀ i, i < 7 → σ.1 0 8 i = τ.1 0 18 i
def IUn (σ τ : St) (U : Nat) : Prop := U ≤ 12 ∧ τ.1 0 0 1 = nI U ∧ σ.1 0 1 1 = nI U ∧ ∀ u, u < U → (τ.1 0 2 u = -1 ∧ σ.1 0 9 u = ((1 : Int32) <<< (nI u &&& 31)) ||| 0) ∨ ∃ a, a < u ∧ τ.1 0 2 u = nI a ∧ σ.1 0 9 u = ((1 : Int32) <<< (nI u &&& 31)) ||| σ.1 0 9 a
def IPo1 (σ τ : St) (U Q p : Nat) : Prop := σ.2 0 10 p = some p ∧ σ.1 1 p 0 = nI p ∧ (∃ u, u < U ∧ τ.1 0 3 p = nI u ∧ σ.1 1 p 1 = nI u) ∧ σ.1 1 p 2 = τ.1 0 4 p ∧ σ.1 1 p 3 = τ.1 0 5 p ∧ σ.1 1 p 4 = τ.1 0 6 p ∧ σ.1 1 p 5 = τ.1 0 7 p ∧ σ.1 1 p 6 = τ.1 0 8 p ∧
  Rg 0 7 (τ.1 0 4 p) ∧ Rg 1 9 (τ.1 0 5 p) ∧ Rg 1 40 (τ.1 0 6 p) ∧ Rg 0 1023 (τ.1 0 7 p) ∧ Rg (-1) ((τ.1 0 0 0).toInt) (τ.1 0 8 p) ∧ (∀ k, σ.2 1 p 7 = some k → k < Q ∧ τ.1 0 12 k = nI p) ∧ (σ.2 1 p 7 = none → ∀ k, k < Q → τ.1 0 12 k ≠ nI p)
def IPo (σ τ : St) (U P Q : Nat) : Prop := P ≤ 40 ∧ τ.1 0 0 4 = nI P ∧ σ.1 0 1 2 = nI P ∧ ∀ p, p < P → IPo1 σ τ U Q p
/-- telling i is one of person k's and of kind w -/
def tk (τ : St) (k : Nat) (w : Int32) (i : Nat) : Bool := decide (τ.1 0 19 i = nI k ∧ τ.1 0 20 i = w)
def IPe1 (σ τ : St) (P T k : Nat) : Prop := σ.2 0 11 k = some k ∧ σ.1 2 k 0 = nI k ∧ σ.1 2 k 1 = τ.1 0 9 k ∧ σ.1 2 k 2 = τ.1 0 10 k ∧ σ.1 2 k 3 = τ.1 0 11 k ∧ σ.1 2 k 6 = τ.1 0 14 k ∧ σ.1 2 k 7 = τ.1 0 15 k ∧ σ.1 2 k 8 = τ.1 0 16 k ∧
  Rg 0 1023 (τ.1 0 9 k) ∧ Rg (-20000) ((τ.1 0 0 0).toInt) (τ.1 0 10 k) ∧ Rg 100 9999 (τ.1 0 11 k) ∧ Rg (-1) ((τ.1 0 0 0).toInt) (τ.1 0 14 k) ∧ Rg (-1) 9000 (τ.1 0 15 k) ∧ Rg (-1) 99999 (τ.1 0 16 k) ∧
  ((σ.2 2 k 4 = none ∧ τ.1 0 12 k = -1) ∨ ∃ p, p < P ∧ σ.2 2 k 4 = some p ∧ τ.1 0 12 k = nI p ∧ τ.1 0 8 p < 0 ∧ σ.2 1 p 7 = some k ∧ τ.1 0 14 k < 0) ∧
  ((σ.2 2 k 4 = none → (σ.2 2 k 5 = none ∧ τ.1 0 13 k = -1) ∨ ∃ p, p < P ∧ σ.2 2 k 5 = some p ∧ τ.1 0 13 k = nI p) ∧ ∀ p, σ.2 2 k 4 = some p → σ.2 2 k 5 = some p) ∧
  σ.2 2 k 9 = lastB (tk τ k 0) T ∧ σ.2 2 k 10 = lastB (tk τ k 1) T
def IPe (σ τ : St) (P Q T : Nat) : Prop := Q ≤ 40 ∧ τ.1 0 0 11 = nI Q ∧ σ.1 0 1 3 = nI Q ∧ ∀ k, k < Q → IPe1 σ τ P T k
/-- the rightings of telling t -/
def rk (τ : St) (t : Nat) (r : Nat) : Bool := decide (τ.1 0 23 r = nI t)
def cnt (p : Nat → Bool) : Nat → Nat
  | 0 => 0
  | n + 1 => cnt p n + (if p n then 1 else 0)
def ITe1 (σ τ : St) (Q R t : Nat) : Prop := σ.2 0 12 t = some t ∧ (∃ k, k < Q ∧ τ.1 0 19 t = nI k ∧ σ.2 3 t 0 = some k ∧ σ.2 3 t 4 = lastB (tk τ k (τ.1 0 20 t)) t) ∧ σ.1 3 t 1 = τ.1 0 20 t ∧ (τ.1 0 20 t = 0 ∨ τ.1 0 20 t = 1) ∧ σ.1 3 t 2 = τ.1 0 22 t ∧ σ.1 3 t 3 = τ.1 0 21 t ∧ Rg 0 ((τ.1 0 0 0).toInt) (τ.1 0 22 t) ∧ Rg 0 (if τ.1 0 20 t = 0 then 100 else 9) (τ.1 0 21 t) ∧
  σ.2 3 t 5 = lastB (rk τ t) R ∧ σ.1 3 t 6 = nI (cnt (rk τ t) R)
def ITe (σ τ : St) (Q T R : Nat) : Prop := T ≤ 120 ∧ τ.1 0 0 25 = nI T ∧ σ.1 0 1 4 = nI T ∧ ∀ t, t < T → ITe1 σ τ Q R t
def IRi1 (σ τ : St) (T r : Nat) : Prop := (∃ t, t < T ∧ τ.1 0 23 r = nI t ∧ σ.2 4 r 2 = lastB (rk τ t) r ∧ Rg 0 (if τ.1 0 20 t = 0 then 100 else 9) (τ.1 0 24 r)) ∧ σ.1 4 r 0 = τ.1 0 25 r ∧ σ.1 4 r 1 = τ.1 0 24 r ∧ Rg 0 ((τ.1 0 0 0).toInt) (τ.1 0 25 r)
def IRi (σ τ : St) (T R : Nat) : Prop := R ≤ 60 ∧ τ.1 0 0 30 = nI R ∧ σ.1 0 1 5 = nI R ∧ ∀ r, r < R → IRi1 σ τ T r
def ILe (σ τ : St) (Q L : Nat) : Prop := L ≤ 8 ∧ τ.1 0 0 53 = nI L ∧ σ.1 0 6 7 = nI L ∧ ∀ i, i < L → ∃ k, k < Q ∧ σ.2 0 28 i = some k ∧ τ.1 0 36 i = nI k
def IEn (σ τ : St) (E : Nat) : Prop := E ≤ 60 ∧ τ.1 0 0 59 = nI E ∧ σ.1 0 7 3 = nI E ∧ ∀ i, i < E → σ.1 0 33 i = τ.1 0 40 i ∧ σ.1 0 34 i = τ.1 0 41 i ∧ σ.1 0 35 i = τ.1 0 42 i ∧ Rg 0 3 (τ.1 0 40 i) ∧ Rg 0 3000 (τ.1 0 41 i) ∧ Rg 1 500 (τ.1 0 42 i)
def InvB (σ τ : St) (U P Q T R L E : Nat) : Prop := ISc σ τ ∧ IUn σ τ U ∧ IPo σ τ U P Q ∧ IPe σ τ P Q T ∧ ITe σ τ Q T R ∧ IRi σ τ T R ∧ ILe σ τ Q L ∧ IEn σ τ E
def Inv (σ τ : St) (N : Nat → Nat) : Prop := ∃ U L E : Nat, InvB σ τ U (N 1) (N 2) (N 3) (N 4) L E
theorem inv_start : Inv σ0 τ0 N0 := by
  refine ⟨0, 0, 0, ⟨rfl, by unfold Rg; decide, fun w hw => ?_, rfl, rfl, rfl, by unfold Rg; decide, by unfold Rg; decide, by unfold Rg; decide, fun i _ => rfl⟩, ⟨by decide, rfl, rfl, fun u h => by omega⟩, ⟨by decide, rfl, rfl, fun u h => absurd h (Nat.not_lt_zero _)⟩, ⟨by decide, rfl, rfl, fun u h => absurd h (Nat.not_lt_zero _)⟩, ⟨by decide, rfl, rfl, fun u h => absurd h (Nat.not_lt_zero _)⟩, ⟨by decide, rfl, rfl, fun u h => absurd h (Nat.not_lt_zero _)⟩, ⟨by decide, rfl, rfl, fun u h => by omega⟩, ⟨by decide, rfl, rfl, fun u h => by omega⟩⟩
  rcases (show w = 0 ∨ w = 1 ∨ w = 2 ∨ w = 3 by omega) with rfl | rfl | rfl | rfl <;> exact ⟨rfl, by unfold Rg; decide⟩
