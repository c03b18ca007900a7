/-! ===== offers: the table ===== -/
theorem cnt_mono2 {p q : Nat → Bool} : ∀ {n : Nat}, (∀ i, i < n → p i = true → q i = true) → cnt p n ≤ cnt q n
  | 0, _ => Nat.le_refl _
  | n + 1, h => by
    have ih := cnt_mono2 (n := n) (fun i hi => h i (by omega))
    show cnt p n + _ ≤ cnt q n + _
    cases hp : p n with
    | false => simp; omega
    | true => rw [h n (by omega) hp]; simp; exact ih
section FitR
variable {σ τ : St} {U P Q T R L E : Nat}
theorem skl_nI (hp : IPo σ τ U P Q) (hq : IPe σ τ P Q T) {k p : Nat} (hk : k < Q) (hpp : p < P) : ∃ s, s ≤ 100 ∧ skl τ k p = nI s := by
  obtain ⟨w, w1, w2⟩ := rg_nI (hi := 1023) (wants_rg hp hpp).2
  obtain ⟨a, a1, a2⟩ := rg_nI (hi := 1023) (skills_rg hq hk).2
  unfold skl
  by_cases h0 : τ.1 0 7 p = 0
  · rw [if_pos h0]; exact ⟨100, Nat.le_refl _, rfl⟩
  · rw [if_neg h0, w2, a2, nI_and]
    have hlt : a &&& w ≤ w := Nat.and_le_right
    rw [on_nI (by omega), on_nI (by omega)]
    have hw0 : 0 < w := by
      rcases Nat.eq_zero_or_pos w with e | e
      · rw [w2, e] at h0; exact absurd rfl h0
      · exact e
    have h1 := pc_pos (n := w) (by omega) hw0
    have h2 := pc_le w
    have h3 : pc (a &&& w) ≤ pc w := by
      rw [pc_cnt, pc_cnt]
      refine cnt_mono2 (fun i _ hi => ?_)
      rw [Nat.testBit_and, Bool.and_eq_true] at hi
      exact hi.2
    have e1 : (100 : Int32) * nI (pc (a &&& w)) = nI (100 * pc (a &&& w)) := pk_mul 100 _
    rw [e1, pk_div (by omega) h1 (by omega)]
    exact ⟨_, Nat.div_le_of_le_mul (by omega), rfl⟩
theorem ad_nI {a b c : Nat} (ha : a ≤ c) (hb : b ≤ c) (hc : c < 1000) : ∃ d, d ≤ c ∧ ad (nI a) (nI b) = nI d := by
  unfold ad
  rw [nI_clamp (by omega), nI_clamp (by omega)]
  exact ⟨_, by omega, rfl⟩
theorem sub3 {s g h : Nat} (hs : s ≤ 1000) (hg : g ≤ 1000) (hh : h ≤ 1000) : (nI s - nI g - nI h).toInt = (s : Int) - g - h := by
  have e1 := pk_sub_toInt (a := s) (b := g) (by omega) (by omega)
  rw [Int32.toInt_sub, e1, nI_toInt (by omega), Int.bmod_eq_of_le (by omega) (by omega)]
theorem fit_rg (hp : IPo σ τ U P Q) (hq : IPe σ τ P Q T) {k p : Nat} (hk : k < Q) (hpp : p < P) (h30 : ¬ fitv τ k p < 30) : ∃ f, 30 ≤ f ∧ f ≤ 100 ∧ fitv τ k p = nI f := by
  have hP := hp.1
  obtain ⟨s, s1, s2⟩ := skl_nI hp hq hk hpp
  obtain ⟨-, g, g0, g1, g2⟩ := grade_rg hp hpp
  obtain ⟨-, h, h1, h2⟩ := hours_rg hp hpp
  have main : (fitv τ k p).toInt ≤ 100 := by
    unfold fitv
    rw [s2, g2, h2]
    by_cases hh : τ.1 0 12 k < 0
    · rw [if_pos hh]
      obtain ⟨d, d1, d2⟩ := ad_nI (a := g) (b := 1) (c := 9) g1 (by decide) (by decide)
      rw [show nI 1 = (1 : Int32) from rfl] at d2
      have e : (10 : Int32) * nI d = nI (10 * d) := pk_mul 10 d
      rw [d2, e, pk_sub_toInt (by omega) (by omega)]
      omega
    · rw [if_neg hh]
      obtain ⟨k1, k2, k3, k4⟩ := hold_nI hp hq hk hh
      obtain ⟨-, g', g0', g1', g2'⟩ := grade_rg hp k1
      obtain ⟨-, h', h1', h2'⟩ := hours_rg hp k1
      have e1 : τ.1 0 5 (τ.1 0 12 k).toNatClampNeg = nI g' := g2'
      have e2 : τ.1 0 6 (τ.1 0 12 k).toNatClampNeg = nI h' := h2'
      rw [e1, e2]
      obtain ⟨d, d1, d2⟩ := ad_nI (a := g) (b := g') (c := 9) g1 g1' (by decide)
      obtain ⟨d', d1', d2'⟩ := ad_nI (a := h) (b := h') (c := 40) h1 h1' (by decide)
      have e3 : (10 : Int32) * nI d = nI (10 * d) := pk_mul 10 d
      have e4 : (2 : Int32) * nI d' = nI (2 * d') := pk_mul 2 d'
      rw [d2, d2', e3, e4, sub3 (by omega) (by omega) (by omega)]
      omega
  rw [i_lt, show (30 : Int32).toInt = 30 from rfl] at h30
  obtain ⟨f, f1, f2⟩ := rg_nI (hi := 100) (x := fitv τ k p) ⟨by omega, main⟩
  refine ⟨f, ?_, f1, f2⟩
  rw [f2, nI_toInt (by omega)] at h30
  omega
end FitR
/-! the table over who is left and which posts are gone -/
def okv (w : Nat → Nat) (t v : Nat) : Bool := decide (w v ≠ 0) && !t.testBit v
def mxf (g : Nat → Nat) (w : Nat → Nat) (t : Nat) : Nat → Nat
  | 0 => g t
  | v + 1 => if okv w t v && decide (mxf g w t v < w v + g (t ||| 2 ^ v)) then w v + g (t ||| 2 ^ v) else mxf g w t v
/-- n are left of L -/
def dp (w : Nat → Nat → Nat) (V L : Nat) : Nat → Nat → Nat
  | 0, _ => 0
  | n + 1, t => mxf (dp w V L n) (w (L - (n + 1))) t V
/-- weights in both codings -/
def WR (w1 w2 : Nat → Nat → Nat) : Prop := ∀ i v, (w1 i v = 0 ∧ w2 i v = 0) ∨ ∃ p f, p ≤ 1 ∧ 30 ≤ f ∧ f ≤ 100 ∧ w1 i v = 1000000 * p + 1000 + f ∧ w2 i v = 1000000 * p + 10000 + f
def TR (n x y : Nat) : Prop := ∃ p c f, p ≤ n ∧ c ≤ n ∧ f ≤ 100 * n ∧ x = 1000000 * p + 1000 * c + f ∧ y = 1000000 * p + 10000 * c + f
theorem TR_cmp {n x y x' y' : Nat} (hn : n ≤ 8) (h : TR n x y) (h' : TR n x' y') : (x < x' ↔ y < y') ∧ (x = x' ↔ y = y') := by
  obtain ⟨p, c, f, h1, h2, h3, rfl, rfl⟩ := h
  obtain ⟨p', c', f', k1, k2, k3, rfl, rfl⟩ := h'
  constructor
  · constructor
    · intro h; omega
    · intro h; omega
  · constructor
    · intro h; omega
    · intro h; omega
theorem TR.up {n x y : Nat} (h : TR n x y) : TR (n + 1) x y := by
  obtain ⟨p, c, f, h1, h2, h3, h4, h5⟩ := h
  exact ⟨p, c, f, by omega, by omega, by omega, h4, h5⟩
theorem TR.add {n x y a b : Nat} (h : TR n x y) (hw : ∃ p f, p ≤ 1 ∧ 30 ≤ f ∧ f ≤ 100 ∧ a = 1000000 * p + 1000 + f ∧ b = 1000000 * p + 10000 + f) : TR (n + 1) (a + x) (b + y) := by
  obtain ⟨p, c, f, h1, h2, h3, rfl, rfl⟩ := h
  obtain ⟨p', f', k1, k2, k3, rfl, rfl⟩ := hw
  exact ⟨p + p', c + 1, f + f', by omega, by omega, by omega, by omega, by omega⟩
theorem okv_eq {w1 w2 : Nat → Nat → Nat} (hw : WR w1 w2) (i t v : Nat) : okv (w1 i) t v = okv (w2 i) t v := by
  unfold okv
  rcases hw i v with ⟨h1, h2⟩ | ⟨p, f, -, -, -, h1, h2⟩
  · rw [h1, h2]
  · rw [decide_eq_true (show w1 i v ≠ 0 by omega), decide_eq_true (show w2 i v ≠ 0 by omega)]
theorem mxf_TR {w1 w2 : Nat → Nat → Nat} (hw : WR w1 w2) {g1 g2 : Nat → Nat} {n : Nat} (hn : n + 1 ≤ 8) (hg : ∀ t, TR n (g1 t) (g2 t)) (i t : Nat) : ∀ V, TR (n + 1) (mxf g1 (w1 i) t V) (mxf g2 (w2 i) t V)
  | 0 => (hg t).up
  | v + 1 => by
    have ih := mxf_TR hw hn hg i t v
    unfold mxf
    rw [← okv_eq hw i t v]
    cases ho : okv (w1 i) t v with
    | false => simp only [Bool.false_and, Bool.false_eq_true, if_false]; exact ih
    | true =>
      have hne : w1 i v ≠ 0 := by
        unfold okv at ho
        rw [Bool.and_eq_true, decide_eq_true_iff] at ho
        exact ho.1
      have hcand : TR (n + 1) (w1 i v + g1 (t ||| 2 ^ v)) (w2 i v + g2 (t ||| 2 ^ v)) := by
        rcases hw i v with ⟨h1, -⟩ | h
        · exact absurd h1 hne
        · exact (hg _).add h
      have hc := (TR_cmp hn ih hcand).1
      simp only [Bool.true_and, decide_eq_true_iff]
      by_cases cc : mxf g1 (w1 i) t v < w1 i v + g1 (t ||| 2 ^ v)
      · rw [if_pos cc, if_pos (hc.mp cc)]; exact hcand
      · rw [if_neg cc, if_neg (fun x => cc (hc.mpr x))]; exact ih
theorem dp_TR {w1 w2 : Nat → Nat → Nat} (hw : WR w1 w2) (V L : Nat) : ∀ n, n ≤ 8 → ∀ t, TR n (dp w1 V L n t) (dp w2 V L n t)
  | 0, _, t => ⟨0, 0, 0, by omega, by omega, by omega, rfl, rfl⟩
  | n + 1, h, t => mxf_TR hw h (dp_TR hw V L n (by omega)) _ t V
theorem TR_le {n x y : Nat} (hn : n ≤ 8) (h : TR n x y) : x ≤ 8100000 ∧ y ≤ 8100000 := by
  obtain ⟨p, c, f, h1, h2, h3, rfl, rfl⟩ := h
  omega
/-- the first with p -/
def fstB (p : Nat → Bool) : Nat → Option Nat
  | 0 => none
  | v + 1 => Option.elim (fstB p v) (if p v then some v else none) some
theorem fstB_some {p : Nat → Bool} : ∀ {n x : Nat}, fstB p n = some x → x < n ∧ p x = true ∧ ∀ y, y < x → p y = false
  | 0, x, h => by cases h
  | n + 1, x, h => by
    unfold fstB at h
    cases hc : fstB p n with
    | none =>
      rw [hc] at h
      simp only [oen] at h
      split at h
      · cases h
        rename_i hp
        refine ⟨by omega, hp, fun y hy => ?_⟩
        exact fstB_none hc y hy
      · cases h
    | some z =>
      rw [hc] at h
      cases h
      obtain ⟨h1, h2, h3⟩ := fstB_some hc
      exact ⟨by omega, h2, h3⟩
where fstB_none {p : Nat → Bool} : ∀ {n : Nat}, fstB p n = none → ∀ y, y < n → p y = false
  | 0, _, y, hy => by omega
  | n + 1, h, y, hy => by
    unfold fstB at h
    cases hc : fstB p n with
    | none =>
      rw [hc] at h
      simp only [oen] at h
      split at h
      · cases h
      · rename_i hp
        by_cases e : y = n
        · subst e; simpa using hp
        · exact fstB_none hc y (by omega)
    | some z => rw [hc] at h; cases h
