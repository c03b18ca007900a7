/-! ===== tools: total answers, loops, frames ===== -/
def OK {α : Type} (o : Option α) (R : α → Prop) : Prop := ∃ a, o = some a ∧ R a
theorem OK.so {α : Type} {a : α} {R : α → Prop} (h : R a) : OK (some a) R := ⟨a, rfl, h⟩
theorem OK.bi {α β : Type} {o : Option α} {k : α → Option β} {R : β → Prop} (h : OK o (fun a => OK (k a) R)) : OK (Option.bind o k) R := by
  obtain ⟨a, h1, b, h2, h3⟩ := h
  exact ⟨b, by rw [h1]; exact h2, h3⟩
theorem OK.be {α β : Type} {o : Option α} {k : α → Option β} {R : β → Prop} {a : α} (h : o = some a) (h2 : OK (k a) R) : OK (Option.bind o k) R := OK.bi ⟨a, h, h2⟩
theorem OK.ite {α : Type} {c : Prop} [Decidable c] {x y : Option α} {R : α → Prop} (h1 : c → OK x R) (h2 : ¬ c → OK y R) : OK (if c then x else y) R := by
  by_cases h : c
  · rw [if_pos h]; exact h1 h
  · rw [if_neg h]; exact h2 h
theorem OK.mono {α : Type} {o : Option α} {R R' : α → Prop} (h : OK o R) (hr : ∀ a, R a → R' a) : OK o R' := by
  obtain ⟨a, h1, h2⟩ := h
  exact ⟨a, h1, hr a h2⟩
theorem OK.itr {S E : Type} {f : S → Option (S ⊕ E)} {F : Nat} {s0 : S} {R : E → Prop} (n : Nat) (I : Nat → S → Prop) (h0 : I 0 s0) (hs : ∀ i s, i < n → I i s → OK (f s) (fun x => Sum.elim (fun s' => I (i + 1) s') R x)) (hx : ∀ s, I n s → OK (f s) (fun x => Sum.elim (fun _ => False) R x)) (hF : n < F) : OK (itr0 f F s0) R := by
  refine itr_inv n I R (fun i s hi hI => ?_) (fun s hI => ?_) F 0 s0 (Nat.zero_le _) (by omega) h0
  · obtain ⟨x, h1, h2⟩ := hs i s hi hI
    cases x with
    | inl s' => exact Or.inl ⟨s', h1, h2⟩
    | inr e => exact Or.inr ⟨e, h1, h2⟩
  · obtain ⟨x, h1, h2⟩ := hx s hI
    cases x with
    | inl s' => exact absurd h2 (fun h => h)
    | inr e => exact ⟨e, h1, h2⟩
/-- a loop by a measure -/
theorem OK.itm {S E : Type} {f : S → Option (S ⊕ E)} {R : E → Prop} (μ : S → Nat) (I : S → Prop) (hs : ∀ s, I s → OK (f s) (fun x => Sum.elim (fun s' => I s' ∧ μ s' < μ s) R x)) : ∀ {F : Nat} {s0 : S}, I s0 → μ s0 < F → OK (itr0 f F s0) R := by
  intro F
  induction F with
  | zero => intro s0 _ h; omega
  | succ F ih =>
    intro s0 h0 h1
    show OK ((f s0).bind _) R
    obtain ⟨x, h2, h3⟩ := hs s0 h0
    cases x with
    | inl s' =>
      rw [h2]
      exact ih h3.1 (by have := h3.2; omega)
    | inr e =>
      rw [h2]
      exact ⟨e, rfl, h3⟩
/-- a loop that goes through known states -/
theorem itr_eq {S E : Type} {f : S → Option (S ⊕ E)} {F : Nat} {s0 : S} (n : Nat) (st : Nat → S) (e : E) (h0 : st 0 = s0) (h : ∀ i, i < n → f (st i) = some (.inl (st (i + 1)))) (hx : f (st n) = some (.inr e)) (hF : n < F) : itr0 f F s0 = some e := by
  rw [← h0]
  exact itr_run n st e h hx F 0 (Nat.zero_le _) (by omega)
theorem itr_bd {S E ρ : Type} {f : S → Option (S ⊕ E)} {F : Nat} {s0 : S} {k : E → Option ρ} {r : Option ρ} (n : Nat) (st : Nat → S) (e : E) (hF : n < F) (h0 : st 0 = s0) (h : ∀ i, i < n → f (st i) = some (.inl (st (i + 1)))) (hx : f (st n) = some (.inr e)) (hk : k e = r) : Option.bind (itr0 f F s0) k = r := by
  rw [itr_eq n st e h0 h hx hF]
  exact hk
theorem FU_lt {n : Nat} (h : n < 1000000) : n < FU := h
theorem nI_0' : (0 : Int32) = nI 0 := rfl
/-- a reference as a number -/
def oI (o : Option Nat) : Int32 := match o with
  | none => -1
  | some p => nI p
theorem oI_none : oI none = -1 := rfl
theorem oI_some (p : Nat) : oI (some p) = nI p := rfl
/-! frames: the class's scratch cells, the reference's -/
def scrC (d j k : Nat) : Bool := d == 0 && (j == 2 || j == 3 || j == 4 || j == 5 || (j == 6 && k == 6) || (j == 7 && Nat.ble 4 k) || (Nat.ble 15 j && Nat.ble j 27) || (Nat.ble 29 j && Nat.ble j 32) || (Nat.ble 36 j))
def scrM (d j k : Nat) : Bool := d == 0 && ((j == 0 && (k == 38 || (Nat.ble 40 k && Nat.ble k 45) || k == 51 || k == 52 || k == 56)) || (Nat.ble 26 j && Nat.ble j 35) || (Nat.ble 37 j && Nat.ble j 39) || (Nat.ble 43 j))
def Fr (scr : Nat → Nat → Nat → Bool) (σ σ' : St) : Prop := ∀ d j k, scr d j k = false → σ'.1 d j k = σ.1 d j k ∧ σ'.2 d j k = σ.2 d j k
theorem Fr.refl {scr : Nat → Nat → Nat → Bool} (σ : St) : Fr scr σ σ := fun _ _ _ _ => ⟨rfl, rfl⟩
theorem Fr.trans {scr : Nat → Nat → Nat → Bool} {a b c : St} (h1 : Fr scr a b) (h2 : Fr scr b c) : Fr scr a c := fun d j k h => ⟨(h2 d j k h).1.trans (h1 d j k h).1, (h2 d j k h).2.trans (h1 d j k h).2⟩
theorem Fr.sx {scr : Nat → Nat → Nat → Bool} {a b : St} (h : Fr scr a b) {d j k : Nat} {v : Int32} (hs : scr d j k = true) : Fr scr a (sx b d j k v) := by
  intro d' j' k' hk
  rw [sx_1, sx_2, if_neg (fun e => by rw [e.1, e.2.1, e.2.2, hs] at hk; cases hk)]
  exact h d' j' k' hk
theorem Fr.sy {scr : Nat → Nat → Nat → Bool} {a b : St} (h : Fr scr a b) {d j k : Nat} {v : Option Nat} (hs : scr d j k = true) : Fr scr a (sy b d j k v) := by
  intro d' j' k' hk
  rw [sy_1, sy_2, if_neg (fun e => by rw [e.1, e.2.1, e.2.2, hs] at hk; cases hk)]
  exact h d' j' k' hk
abbrev FrC (σ σ' : St) : Prop := Fr scrC σ σ'
abbrev FrM (τ τ' : St) : Prop := Fr scrM τ τ'
theorem FrC.d1 {σ σ' : St} (h : FrC σ σ') (d j : Nat) : σ'.1 (d + 1) j = σ.1 (d + 1) j ∧ σ'.2 (d + 1) j = σ.2 (d + 1) j := ⟨funext fun k => (h (d + 1) j k rfl).1, funext fun k => (h (d + 1) j k rfl).2⟩
/-- the relation doesn't look at scratch cells: the class's -/
theorem InvB.frC {σ σ' τ : St} {U P Q T R L E : Nat} (hf : FrC σ σ') (h : InvB σ τ U P Q T R L E) : InvB σ' τ U P Q T R L E := by
  obtain ⟨hs, hu, hp, hq, ht, hr, hl, he⟩ := h
  have d1 := hf.d1
  have i0 : ∀ {j : Nat} (k : Nat), scrC 0 j k = false → σ'.1 0 j k = σ.1 0 j k := fun k h => (hf 0 _ k h).1
  have r0 : ∀ {j : Nat} (k : Nat), scrC 0 j k = false → σ'.2 0 j k = σ.2 0 j k := fun k h => (hf 0 _ k h).2
  refine ⟨?_, ?_, ?_, ?_, ?_, ?_, ?_, ?_⟩
  · unfold ISc
    rw [i0 (j := 1) 0 rfl, i0 (j := 14) 0 rfl, i0 (j := 14) 1 rfl, i0 (j := 14) 2 rfl]
    refine ⟨hs.1, hs.2.1, fun w hw => ?_, hs.2.2.2.1, hs.2.2.2.2.1, hs.2.2.2.2.2.1, hs.2.2.2.2.2.2.1, hs.2.2.2.2.2.2.2.1, hs.2.2.2.2.2.2.2.2.1, fun i hi => ?_⟩
    · rw [i0 (j := 13) w rfl]; exact hs.2.2.1 w hw
    · rw [i0 (j := 8) i rfl]; exact hs.2.2.2.2.2.2.2.2.2 i hi
  · refine ⟨hu.1, hu.2.1, ?_, fun u hu' => ?_⟩
    · rw [i0 (j := 1) 1 rfl]; exact hu.2.2.1
    · rcases hu.2.2.2 u hu' with ⟨a, b⟩ | ⟨a, b, c, d⟩
      · exact Or.inl ⟨a, by rw [i0 (j := 9) u rfl]; exact b⟩
      · exact Or.inr ⟨a, b, c, by rw [i0 (j := 9) u rfl, i0 (j := 9) a rfl]; exact d⟩
  · refine ⟨hp.1, hp.2.1, ?_, fun p hpp => ?_⟩
    · rw [i0 (j := 1) 2 rfl]; exact hp.2.2.1
    · have := hp.2.2.2 p hpp
      unfold IPo1 at this ⊢
      rw [r0 (j := 10) p rfl, (d1 0 p).1, (d1 0 p).2]
      exact this
  · refine ⟨hq.1, hq.2.1, ?_, fun k hk => ?_⟩
    · rw [i0 (j := 1) 3 rfl]; exact hq.2.2.1
    · have := hq.2.2.2 k hk
      unfold IPe1 at this ⊢
      simp only [r0 (j := 11) k rfl, (d1 1 k).1, (d1 1 k).2, fun p => (d1 0 p).2]
      exact this
  · refine ⟨ht.1, ht.2.1, ?_, fun t htt => ?_⟩
    · rw [i0 (j := 1) 4 rfl]; exact ht.2.2.1
    · have := ht.2.2.2 t htt
      unfold ITe1 at this ⊢
      rw [r0 (j := 12) t rfl, (d1 2 t).1, (d1 2 t).2]
      exact this
  · refine ⟨hr.1, hr.2.1, ?_, fun r hrr => ?_⟩
    · rw [i0 (j := 1) 5 rfl]; exact hr.2.2.1
    · have := hr.2.2.2 r hrr
      unfold IRi1 at this ⊢
      rw [(d1 3 r).1, (d1 3 r).2]
      exact this
  · refine ⟨hl.1, hl.2.1, ?_, fun i hi => ?_⟩
    · rw [i0 (j := 6) 7 rfl]; exact hl.2.2.1
    · rw [r0 (j := 28) i rfl]; exact hl.2.2.2 i hi
  · refine ⟨he.1, he.2.1, ?_, fun i hi => ?_⟩
    · rw [i0 (j := 7) 3 rfl]; exact he.2.2.1
    · rw [i0 (j := 33) i rfl, i0 (j := 34) i rfl, i0 (j := 35) i rfl]; exact he.2.2.2 i hi
/-- the same of the reference's -/
theorem InvB.frM {σ τ τ' : St} {U P Q T R L E : Nat} (hf : FrM τ τ') (h : InvB σ τ U P Q T R L E) : InvB σ τ' U P Q T R L E := by
  obtain ⟨hs, hu, hp, hq, ht, hr, hl, he⟩ := h
  have i0 : ∀ {j : Nat} (k : Nat), scrM 0 j k = false → τ'.1 0 j k = τ.1 0 j k := fun k h => (hf 0 _ k h).1
  have hd := i0 (j := 0) 0 rfl
  have htk : ∀ k w, tk τ' k w = tk τ k w := fun k w => by funext i; unfold tk; rw [i0 (j := 19) i rfl, i0 (j := 20) i rfl]
  have hrk : ∀ t, rk τ' t = rk τ t := fun t => by funext i; unfold rk; rw [i0 (j := 23) i rfl]
  refine ⟨?_, ?_, ?_, ?_, ?_, ?_, ?_, ?_⟩
  · unfold ISc
    rw [hd, i0 (j := 0) 20 rfl, i0 (j := 0) 21 rfl, i0 (j := 0) 22 rfl]
    refine ⟨hs.1, hs.2.1, fun w hw => ?_, hs.2.2.2.1, hs.2.2.2.2.1, hs.2.2.2.2.2.1, hs.2.2.2.2.2.2.1, hs.2.2.2.2.2.2.2.1, hs.2.2.2.2.2.2.2.2.1, fun i hi => ?_⟩
    · rw [i0 (j := 17) w rfl]; exact hs.2.2.1 w hw
    · rw [i0 (j := 18) i rfl]; exact hs.2.2.2.2.2.2.2.2.2 i hi
  · refine ⟨hu.1, ?_, hu.2.2.1, fun u hu' => ?_⟩
    · rw [i0 (j := 0) 1 rfl]; exact hu.2.1
    · rw [i0 (j := 2) u rfl]; exact hu.2.2.2 u hu'
  · refine ⟨hp.1, ?_, hp.2.2.1, fun p hpp => ?_⟩
    · rw [i0 (j := 0) 4 rfl]; exact hp.2.1
    · have := hp.2.2.2 p hpp
      unfold IPo1 at this ⊢
      simp only [hd, i0 (j := 3) p rfl, i0 (j := 4) p rfl, i0 (j := 5) p rfl, i0 (j := 6) p rfl, i0 (j := 7) p rfl, i0 (j := 8) p rfl, fun k => i0 (j := 12) k rfl]
      exact this
  · refine ⟨hq.1, ?_, hq.2.2.1, fun k hk => ?_⟩
    · rw [i0 (j := 0) 11 rfl]; exact hq.2.1
    · have := hq.2.2.2 k hk
      unfold IPe1 at this ⊢
      simp only [hd, htk, i0 (j := 9) k rfl, i0 (j := 10) k rfl, i0 (j := 11) k rfl, i0 (j := 12) k rfl, i0 (j := 13) k rfl, i0 (j := 14) k rfl, i0 (j := 15) k rfl, i0 (j := 16) k rfl, fun p => i0 (j := 8) p rfl]
      exact this
  · refine ⟨ht.1, ?_, ht.2.2.1, fun t htt => ?_⟩
    · rw [i0 (j := 0) 25 rfl]; exact ht.2.1
    · have := ht.2.2.2 t htt
      unfold ITe1 at this ⊢
      simp only [hd, htk, hrk, i0 (j := 19) t rfl, i0 (j := 20) t rfl, i0 (j := 21) t rfl, i0 (j := 22) t rfl]
      exact this
  · refine ⟨hr.1, ?_, hr.2.2.1, fun r hrr => ?_⟩
    · rw [i0 (j := 0) 30 rfl]; exact hr.2.1
    · have := hr.2.2.2 r hrr
      unfold IRi1 at this ⊢
      simp only [hd, hrk, i0 (j := 23) r rfl, i0 (j := 24) r rfl, i0 (j := 25) r rfl, fun t => i0 (j := 20) t rfl]
      exact this
  · refine ⟨hl.1, ?_, hl.2.2.1, fun i hi => ?_⟩
    · rw [i0 (j := 0) 53 rfl]; exact hl.2.1
    · rw [i0 (j := 36) i rfl]; exact hl.2.2.2 i hi
  · refine ⟨he.1, ?_, he.2.2.1, fun i hi => ?_⟩
    · rw [i0 (j := 0) 59 rfl]; exact he.2.1
    · rw [i0 (j := 40) i rfl, i0 (j := 41) i rfl, i0 (j := 42) i rfl]; exact he.2.2.2 i hi
theorem Inv.fr {σ σ' τ τ' : St} {N : Nat → Nat} (h : Inv σ τ N) (h1 : FrC σ σ') (h2 : FrM τ τ') : Inv σ' τ' N := by
  obtain ⟨U, L, E, h⟩ := h
  exact ⟨U, L, E, (h.frC h1).frM h2⟩
