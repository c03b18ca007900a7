/-! ===== what is known of a person ===== -/
theorem lastB_and {p q : Nat → Bool} (n : Nat) : lastB (fun i => p i && q i) n = Option.elim (lastB p n) none fun i => if q i then some i else lastB (fun i => p i && q i) i := by
  induction n with
  | zero => rfl
  | succ n ih =>
    by_cases hp : p n = true
    · simp only [lastB, hp, if_true, Bool.true_and, Option.elim]
    · have hp' : p n = false := by simpa using hp
      have e1 : lastB p (n + 1) = lastB p n := by simp only [lastB, hp', Bool.false_eq_true, if_false]
      have e2 : lastB (fun i => p i && q i) (n + 1) = lastB (fun i => p i && q i) n := by simp only [lastB, hp', Bool.false_and, Bool.false_eq_true, if_false]
      rw [e1, e2, ih]
def knT (τ : St) (T k : Nat) (w d : Int32) : Option Nat := lastB (fun i => tk τ k w i && decide (¬ d < τ.1 0 22 i)) T
def knR (τ : St) (R t : Nat) (d : Int32) : Option Nat := lastB (fun r => rk τ t r && decide (¬ d < τ.1 0 25 r)) R
def rtv (τ : St) (R t : Nat) (d : Int32) : Int32 := Option.elim (knR τ R t d) (τ.1 0 21 t) fun r => τ.1 0 24 r
def kn (τ : St) (T R k : Nat) (w d : Int32) : Int32 := Option.elim (knT τ T k w d) (if w = 0 then 50 else 0) fun t => rtv τ R t d
section Known
variable {σ τ : St} {U P Q T R L E : Nat}
theorem p_asOf_eq (ht : ITe σ τ Q T R) (hr : IRi σ τ T R) {t : Nat} (htt : t < T) (d : Int32) : p_Telling_asOf σ t d = some (rtv τ R t d) := by
  have hT := ht.1
  have hR := hr.1
  obtain ⟨b1, b2, b3, b4, b5, b6, b7, b8, b9, b10⟩ := ht.2.2.2 t htt
  unfold p_Telling_asOf
  rw [lt1_eq, b9]
  have hk : OK (itr0 (S := (Option Nat)) (E := ((Unit) ⊕ (Int32))) (fun s3 => (Option.elim s3 (some (.inr (.inl ()))) fun q11 => (if d < σ.1 4 q11 0 then (lt1 (σ.2 4 q11 2) fun x13 => some (.inl x13)) else some (.inr (.inr (σ.1 4 q11 1)))))) FU (lastB (rk τ t) R)) (fun e => e = Option.elim (knR τ R t d) (.inl ()) fun r => .inr (τ.1 0 24 r)) := by
    refine OK.itm (fun s => Option.elim s 0 fun i => i + 1) (fun s => ∃ n, n ≤ R ∧ s = lastB (rk τ t) n ∧ knR τ R t d = knR τ n t d) (fun s hs => ?_) ⟨R, Nat.le_refl _, rfl, rfl⟩ ?_
    · obtain ⟨n, h1, h2, h3⟩ := hs
      have h4 := lastB_and (p := rk τ t) (q := fun r => decide (¬ d < τ.1 0 25 r)) n
      cases hs' : lastB (rk τ t) n with
      | none =>
        rw [hs'] at h4
        rw [h2, hs']
        refine OK.so ?_
        show _ = _
        rw [h3]
        unfold knR
        rw [h4]
        rfl
      | some r =>
        rw [hs'] at h4
        rw [h2, hs']
        obtain ⟨g1, g2, g3⟩ := lastB_some hs'
        obtain ⟨⟨t', c1, c2, c3, c4⟩, c5, c6, c7⟩ := hr.2.2.2 r (by omega)
        have hrt : τ.1 0 23 r = nI t := of_decide_eq_true g2
        rw [c2] at hrt
        have := nI_inj (by omega) (by omega) hrt
        subst this
        simp only [oes, c5, c6, lt1_eq, c3]
        by_cases hd : d < τ.1 0 25 r
        · rw [if_pos hd]
          refine OK.so ⟨⟨r, by omega, rfl, ?_⟩, ?_⟩
          · rw [h3]
            unfold knR
            rw [h4, oes, if_neg (show ¬ (decide (¬ d < τ.1 0 25 r) = true) from fun c => absurd hd (of_decide_eq_true c))]
          · show Option.elim (lastB (rk τ t') r) 0 (fun i => i + 1) < r + 1
            cases hl : lastB (rk τ t') r with
            | none => exact Nat.succ_pos _
            | some i =>
              have := (lastB_some hl).1
              show i + 1 < r + 1
              omega
        · rw [if_neg hd]
          refine OK.so ?_
          show _ = _
          rw [h3]
          unfold knR
          rw [h4, oes, if_pos (decide_eq_true hd)]
          rfl
    · cases hl : lastB (rk τ t) R with
      | none => exact FU_lt (by decide)
      | some i =>
        have := (lastB_some hl).1
        exact FU_lt (show i + 1 < 1000000 by omega)
  obtain ⟨e, h1, h2⟩ := hk
  rw [h1, h2, b6]
  unfold rtv
  cases knR τ R t d <;> rfl
theorem p_lastTold_eq (hq : IPe σ τ P Q T) {k : Nat} (hk : k < Q) {w : Int32} (hw : w = 0 ∨ w = 1) : p_Person_lastTold σ k w = some (lastB (tk τ k w) T) := by
  obtain ⟨-, -, -, -, -, -, -, -, -, -, -, -, -, -, -, -, b17, b18⟩ := hq.2.2.2 k hk
  unfold p_Person_lastTold
  rcases hw with rfl | rfl
  · rw [if_pos rfl, lt1_eq, b17]
  · rw [if_neg (by decide), lt1_eq, b18]
theorem p_told_eq (hq : IPe σ τ P Q T) (ht : ITe σ τ Q T R) (hr : IRi σ τ T R) {k : Nat} (hk : k < Q) {w : Int32} (hw : w = 0 ∨ w = 1) (d : Int32) : p_Person_toldAsOf σ k w d = some (kn τ T R k w d) := by
  have hT := ht.1
  have hR := hr.1
  have hQ := hq.1
  unfold p_Person_toldAsOf
  rw [p_lastTold_eq hq hk hw, obs]
  have hk : OK (itr0 (S := (Option Nat)) (E := ((Unit) ⊕ (Int32))) (fun s3 => (Option.elim s3 (some (.inr (.inl ()))) fun q11 => (if d < σ.1 3 q11 2 then (lt1 (σ.2 3 q11 4) fun x13 => some (.inl x13)) else (Option.bind (p_Telling_asOf σ q11 d) fun r15 => some (.inr (.inr r15)))))) FU (lastB (tk τ k w) T)) (fun e => e = Option.elim (knT τ T k w d) (.inl ()) fun t => .inr (rtv τ R t d)) := by
    refine OK.itm (fun s => Option.elim s 0 fun i => i + 1) (fun s => ∃ n, n ≤ T ∧ s = lastB (tk τ k w) n ∧ knT τ T k w d = knT τ n k w d) (fun s hs => ?_) ⟨T, Nat.le_refl _, rfl, rfl⟩ ?_
    · obtain ⟨n, h1, h2, h3⟩ := hs
      have h4 := lastB_and (p := tk τ k w) (q := fun r => decide (¬ d < τ.1 0 22 r)) n
      cases hs' : lastB (tk τ k w) n with
      | none =>
        rw [hs'] at h4
        rw [h2, hs']
        refine OK.so ?_
        show _ = _
        rw [h3]
        unfold knT
        rw [h4]
        rfl
      | some r =>
        rw [hs'] at h4
        rw [h2, hs']
        obtain ⟨g1, g2, g3⟩ := lastB_some hs'
        obtain ⟨b1, ⟨k', c1, c2, c3, c4⟩, b3, b4, b5, b6, b7, b8, b9, b10⟩ := ht.2.2.2 r (by omega)
        obtain ⟨hrt, hrw⟩ : τ.1 0 19 r = nI k ∧ τ.1 0 20 r = w := of_decide_eq_true g2
        rw [c2] at hrt
        have := nI_inj (by omega) (by omega) hrt
        subst this
        rw [hrw] at c4
        simp only [oes, b5, lt1_eq, c4]
        by_cases hd : d < τ.1 0 22 r
        · rw [if_pos hd]
          refine OK.so ⟨⟨r, by omega, rfl, ?_⟩, ?_⟩
          · rw [h3]
            unfold knT
            rw [h4, oes, if_neg (show ¬ (decide (¬ d < τ.1 0 22 r) = true) from fun c => absurd hd (of_decide_eq_true c))]
          · show Option.elim (lastB (tk τ k' w) r) 0 (fun i => i + 1) < r + 1
            cases hl : lastB (tk τ k' w) r with
            | none => exact Nat.succ_pos _
            | some i =>
              have := (lastB_some hl).1
              show i + 1 < r + 1
              omega
        · rw [if_neg hd, p_asOf_eq ht hr (by omega) d, obs]
          refine OK.so ?_
          show _ = _
          rw [h3]
          unfold knT
          rw [h4, oes, if_pos (decide_eq_true hd)]
          rfl
    · cases hl : lastB (tk τ k w) T with
      | none => exact FU_lt (by decide)
      | some i =>
        have := (lastB_some hl).1
        exact FU_lt (show i + 1 < 1000000 by omega)
  obtain ⟨e, h1, h2⟩ := hk
  rw [h1, h2]
  unfold kn
  cases knT τ T k w d with
  | none => simp only [oen, obs, Sum.elim]; split <;> rfl
  | some t => rfl
theorem knT_lt {k : Nat} {w d : Int32} {t : Nat} (h : knT τ T k w d = some t) : t < T := (lastB_some h).1
set_option maxHeartbeats 400000 in
theorem m_known_eq (hT : T ≤ 120) (hR : R ≤ 60 + 1) (e25 : τ.1 0 0 25 = nI T) (e30 : τ.1 0 0 30 = nI R) (k : Nat) (w d : Int32) : m_knownOf τ (nI k) w d = some (kn τ T R k w d) := by
  unfold m_knownOf
  refine itr_bd T (fun i => (oI (knT τ i k w d), nI i)) (oI (knT τ T k w d)) (FU_lt (by omega)) rfl (fun i hi => ?_) ?_ ?_
  · simp only [e25, if_pos (nI_lt hi (show T < 2 ^ 31 by omega)), ix_nI (show i < 120 by omega) (show 120 < 2 ^ 31 by decide), obs]
    have e : knT τ (i + 1) k w d = if (tk τ k w i && decide (¬ d < τ.1 0 22 i)) then some i else knT τ i k w d := rfl
    rw [e]
    unfold tk
    by_cases h1 : τ.1 0 19 i = nI k
    · by_cases h2 : τ.1 0 20 i = w
      · by_cases h3 : d < τ.1 0 22 i
        · simp [h1, h2, h3, nI_1]
        · simp [h1, h2, h3, nI_1, oI]
      · simp [h1, h2, nI_1]
    · simp [h1, nI_1]
  · simp only [e25, if_neg (nI_nlt (Nat.le_refl T) (show T < 2 ^ 31 by omega))]
  · unfold kn
    cases hc : knT τ T k w d with
    | none =>
      simp only [oI_none, if_pos (show (-1 : Int32) < 0 by decide), oen]
      have hx : ∀ v : Int32, (Option.bind (itr0 (S := Int32 × Int32) (E := Int32) (fun s12 => (if s12.2 < τ.1 0 0 30 then some (.inr s12.1) else some (.inr s12.1))) FU (v, (0 : Int32))) fun e17 => some e17) = some v := by
        intro v
        refine itr_bd 0 (fun _ => (v, 0)) v (FU_lt (by decide)) rfl (fun i hi => by omega) ?_ rfl
        simp
      by_cases hw : w = 0
      · simp only [if_pos hw, obs]; exact hx _
      · simp only [if_neg hw, obs]; exact hx _
    | some t =>
      have ht := knT_lt hc
      simp only [oI_some, if_neg (nI_pos (show t < 2 ^ 31 by omega)), ix_nI (show t < 120 by omega) (show 120 < 2 ^ 31 by decide), obs, oes]
      refine itr_bd R (fun i => (rtv τ i t d, nI i)) (rtv τ R t d) (FU_lt (by omega)) rfl (fun i hi => ?_) ?_ rfl
      · simp only [e30, if_pos (nI_lt hi (show R < 2 ^ 31 by omega)), if_neg (nI_pos (show t < 2 ^ 31 by omega)), ix_nI (show i < 61 by omega) (show 61 < 2 ^ 31 by decide), obs]
        have e : rtv τ (i + 1) t d = if (rk τ t i && decide (¬ d < τ.1 0 25 i)) then τ.1 0 24 i else rtv τ i t d := by
          unfold rtv
          have e' : knR τ (i + 1) t d = if (rk τ t i && decide (¬ d < τ.1 0 25 i)) then some i else knR τ i t d := rfl
          rw [e']
          split <;> rfl
        rw [e]
        unfold rk
        by_cases h1 : τ.1 0 23 i = nI t
        · by_cases h3 : d < τ.1 0 25 i
          · simp [h1, h3, nI_1]
          · simp [h1, h3, nI_1]
        · simp [h1, nI_1]
      · simp only [e30, if_neg (nI_nlt (Nat.le_refl R) (show R < 2 ^ 31 by omega))]
end Known
