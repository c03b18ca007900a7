/-! ===== bits; units below a unit ===== -/
theorem smod_nI {u : Nat} (h : u < 32) : ((nI u).toBitVec.smod 32).toNat = u := by
  have : ∀ u : Fin 32, ((nI u.1).toBitVec.smod 32).toNat = u.1 := by decide
  exact this ⟨u, h⟩
theorem and31 {u : Nat} (h : u < 32) : nI u &&& 31 = nI u := by
  rw [pk_andN (n := u) (by omega) (m := 31) 5 (by decide), Nat.mod_eq_of_lt (by omega)]
theorem shl1 {u : Nat} (h : u < 31) : (1 : Int32) <<< (nI u &&& 31) = nI (2 ^ u) := by
  rw [and31 (by omega)]
  have h2 : 2 ^ u < 2 ^ 32 := Nat.pow_lt_pow_right (by decide) (by omega)
  have := pk_shlN (n := 1) (nI u) u (smod_nI (by omega)) (by omega)
  rw [Nat.one_mul] at this
  exact this
theorem bitv {m u : Nat} (hm : m < 2 ^ 31) (hu : u < 32) : (nI m >>> (nI u &&& 31)) &&& 1 = nI (m / 2 ^ u % 2) := by
  rw [and31 hu, pk_shrN hm (nI u) u (smod_nI hu)]
  have : m / 2 ^ u < 2 ^ 32 := Nat.lt_of_le_of_lt (Nat.div_le_self _ _) (by omega)
  exact pk_andN this 1 (by decide)
theorem tb_iff (m u : Nat) : m.testBit u = true ↔ m / 2 ^ u % 2 = 1 := by
  rw [Nat.testBit_eq_decide_div_mod_eq, decide_eq_true_iff]
theorem bitI {m u : Nat} (hm : m < 2 ^ 31) (hu : u < 32) : ((nI m >>> (nI u &&& 31)) &&& 1 = (1 : Int32)) ↔ m.testBit u = true := by
  rw [bitv hm hu, tb_iff]
  have : m / 2 ^ u % 2 < 2 := Nat.mod_lt _ (by decide)
  exact ⟨fun e => nI_inj (b := 1) (by omega) (by decide) e, fun e => by rw [e]; rfl⟩
theorem bit0 {m u : Nat} (hm : m < 2 ^ 31) (hu : u < 32) : ((nI m >>> (nI u &&& 31)) &&& 1 = (0 : Int32)) ↔ m.testBit u = false := by
  rw [bitv hm hu]
  have h2 : m / 2 ^ u % 2 < 2 := Nat.mod_lt _ (by decide)
  constructor
  · intro e
    have := nI_inj (b := 0) (by omega) (by decide) e
    cases h : m.testBit u with
    | false => rfl
    | true => rw [tb_iff] at h; omega
  · intro e
    have : m / 2 ^ u % 2 = 0 := by
      rcases (show m / 2 ^ u % 2 = 0 ∨ m / 2 ^ u % 2 = 1 by omega) with h | h
      · exact h
      · rw [← tb_iff, e] at h; cases h
    rw [this]; rfl
theorem itr_stop {S E : Type} {f : S → Option (S ⊕ E)} {F : Nat} {s : S} {e : E} (h : f s = some (.inr e)) : itr0 f (F + 1) s = some e := by
  show (f s).bind _ = some e
  rw [h]; rfl
theorem itr_go {S E : Type} {f : S → Option (S ⊕ E)} {F : Nat} {s s' : S} (h : f s = some (.inl s')) : itr0 f (F + 1) s = itr0 f F s' := by
  show (f s).bind _ = _
  rw [h]; rfl
section Below
variable {σ τ : St} {U P Q T R L E : Nat}
/-- the sets of units above, as numbers -/
theorem up_nI (hu : IUn σ τ U) : ∀ v, v < U → ∃ m, m < 2 ^ (v + 1) ∧ σ.1 0 9 v = nI m ∧ m.testBit v = true ∧ (∀ a, a < v → τ.1 0 2 v = nI a → ∀ m', σ.1 0 9 a = nI m' → m' < 2 ^ 31 → ∀ u, u ≠ v → m.testBit u = m'.testBit u) ∧ (τ.1 0 2 v = -1 → ∀ u, u ≠ v → m.testBit u = false) := by
  have hU := hu.1
  intro v
  induction v using Nat.strongRecOn with
  | ind v ih =>
    intro hv
    have hs := shl1 (u := v) (by omega)
    have hp : 2 ^ (v + 1) = 2 * 2 ^ v := by rw [Nat.pow_succ]; omega
    have hpos := Nat.two_pow_pos v
    rcases hu.2.2.2 v hv with ⟨c1, c2⟩ | ⟨a, c1, c2, c3⟩
    · refine ⟨2 ^ v, by omega, ?_, by simp, fun a ha e => ?_, fun _ u hne => ?_⟩
      · rw [c2, hs]
        have := nI_or (2 ^ v) 0
        rw [Nat.or_zero] at this
        exact this
      · rw [c1] at e; exact absurd e.symm (nI_m1 (by omega))
      · rw [Nat.testBit_two_pow]; simp; omega
    · obtain ⟨m, d1, d2, d3, -⟩ := ih a c1 (by omega)
      have hle : 2 ^ (a + 1) ≤ 2 ^ v := Nat.pow_le_pow_right (by decide) (by omega)
      refine ⟨2 ^ v ||| m, ?_, ?_, ?_, fun a' ha' e m' hm' hlt u hne => ?_, fun e => ?_⟩
      · exact Nat.or_lt_two_pow (by omega) (by omega)
      · rw [c3, hs, d2, nI_or]
      · rw [Nat.testBit_or, Nat.testBit_two_pow_self]; rfl
      · rw [c2] at e
        have := nI_inj (by omega) (by omega) e
        subst this
        rw [d2] at hm'
        have h31 : 2 ^ v < 2 ^ 31 := Nat.pow_lt_pow_right (by decide) (by omega)
        have := nI_inj (by omega) hlt hm'
        subst this
        rw [Nat.testBit_or, Nat.testBit_two_pow]
        have : decide (v = u) = false := by simp; omega
        rw [this, Bool.false_or]
      · rw [c2] at e; exact absurd e (nI_m1 (by omega))
def upB (σ : St) (u v : Nat) : Bool := decide ((σ.1 0 9 v >>> (nI u &&& 31)) &&& 1 = (1 : Int32))
theorem m_below_eq (hu : IUn σ τ U) {u : Nat} (huu : u < U) {v : Nat} (hv : v < U) : m_isBelow τ (nI v) (nI u) = some (if upB σ u v then 1 else 0) := by
  have hU := hu.1
  have main : ∀ v, v < U → ∀ F, 20 < F + 12 - v → 20 < F → ∃ e, itr0 (S := Int32) (E := Int32) (fun s1 => (if s1 < 0 then some (.inr s1) else (if s1 = nI u then some (.inr s1) else (Option.bind (ix 12 s1) fun i9 => some (.inl (τ.1 0 2 i9)))))) (F + v) (nI v) = some e ∧ (e = nI u ↔ upB σ u v = true) := by
    intro v
    induction v using Nat.strongRecOn with
    | ind v ih =>
      intro hv F hF hF2
      obtain ⟨m, d1, d2, d3, d4, d5⟩ := up_nI hu v hv
      have h31 : 2 ^ (v + 1) < 2 ^ 31 := Nat.pow_lt_pow_right (by decide) (by omega)
      have hub : upB σ u v = m.testBit u := by
        unfold upB
        rw [d2, Bool.eq_iff_iff, decide_eq_true_iff, bitI (by omega) (by omega)]
      obtain ⟨G, hG⟩ : ∃ G, F + v = G + 1 := ⟨F + v - 1, by omega⟩
      rw [hG]
      have hn := nI_pos (show v < 2 ^ 31 by omega)
      by_cases e1 : v = u
      · subst e1
        refine ⟨nI v, itr_stop ?_, by rw [hub, d3]; simp⟩
        rw [if_neg hn, if_pos rfl]
      · have e1' : ¬ nI v = nI u := fun e => e1 (nI_inj (by omega) (by omega) e)
        have hx := ix_nI (show v < 12 by omega) (show 12 < 2 ^ 31 by decide)
        rcases hu.2.2.2 v hv with ⟨c1, c2⟩ | ⟨a, c1, c2, c3⟩
        · obtain ⟨G', rfl⟩ : ∃ G', G = G' + 1 := ⟨G - 1, by omega⟩
          refine ⟨-1, (itr_go (s' := -1) ?_).trans (itr_stop ?_), ?_⟩
          · rw [if_neg hn, if_neg e1', hx, obs, c1]
          · rw [if_pos (by decide)]
          rw [hub, d5 c1 u (fun e => e1 e.symm)]
          exact ⟨fun e => absurd e.symm (nI_m1 (by omega)), fun e => by cases e⟩
        · rw [itr_go (s' := nI a) (by rw [if_neg hn, if_neg e1', hx, obs, c2])]
          obtain ⟨m', f1, f2, f3, -⟩ := up_nI hu a (by omega)
          have g31 : 2 ^ (a + 1) < 2 ^ 31 := Nat.pow_lt_pow_right (by decide) (by omega)
          have e2 : G = (G - a) + a := by omega
          rw [e2]
          obtain ⟨e, g1, g2⟩ := ih a c1 (by omega) (G - a) (by omega) (by omega)
          refine ⟨e, g1, ?_⟩
          rw [g2, hub, d4 a c1 c2 m' f2 (by omega) u (fun e => e1 e.symm)]
          unfold upB
          rw [f2, decide_eq_true_iff, bitI (by omega) (by omega)]
  unfold m_isBelow
  obtain ⟨e, h1, h2⟩ := main v hv (FU - v) (by have := FU_lt (n := 100) (by decide); omega) (by have := FU_lt (n := 100) (by decide); omega)
  rw [show FU - v + v = FU by have := FU_lt (n := 100) (by decide); omega] at h1
  rw [h1, obs]
  cases hc : upB σ u v with
  | true => rw [if_pos (h2.mpr hc)]; rfl
  | false => rw [if_neg (fun c => by have := h2.mp c; rw [hc] at this; cases this)]; rfl
/-- the post's unit -/
def uo (τ : St) (p : Nat) : Nat := (τ.1 0 3 p).toNatClampNeg
theorem uo_eq (hp : IPo σ τ U P Q) (hU : U ≤ 12) {p : Nat} (hpp : p < P) : uo τ p < U ∧ τ.1 0 3 p = nI (uo τ p) ∧ σ.1 1 p 1 = nI (uo τ p) := by
  obtain ⟨-, -, ⟨u, h1, h2, h3⟩, -⟩ := hp.2.2.2 p hpp
  have : uo τ p = u := by unfold uo; rw [h2, nI_clamp (by omega)]
  rw [this]
  exact ⟨h1, h2, h3⟩
/-- open, and of the unit u or of one below it -/
def inB (σ τ : St) (u p : Nat) : Bool := decide (τ.1 0 8 p < 0) && upB σ u (uo τ p)
theorem p_openBelow_eq (hu : IUn σ τ U) (hp : IPo σ τ U P Q) {u p : Nat} (huu : u < U) (hpp : p < P) : p_Firm_isOpenBelow σ p (nI u) = some (if inB σ τ u p then 1 else 0) := by
  have hU := hu.1
  obtain ⟨h1, h2, h3⟩ := uo_eq hp hU hpp
  unfold p_Firm_isOpenBelow
  rw [p_open_eq hp hpp, h3, p_isUnit_t hu h1, p_isUnit_t hu huu, ix_nI (show uo τ p < 12 by omega) (by decide)]
  simp only [obs, bI_eq0, if_neg (show ¬ (1 : Int32) = 0 by decide)]
  unfold inB upB
  by_cases c1 : τ.1 0 8 p < 0
  · by_cases c2 : (σ.1 0 9 (uo τ p) >>> (nI u &&& 31)) &&& 1 = (1 : Int32)
    · simp only [c1, c2, not_true, if_false, if_true, decide_true, Bool.and_self]
    · simp only [c1, c2, not_true, if_false, decide_true, decide_false, Bool.and_false, Bool.false_eq_true]
  · simp only [c1, not_false_iff, if_true, decide_false, Bool.false_and, Bool.false_eq_true, if_false]
end Below
